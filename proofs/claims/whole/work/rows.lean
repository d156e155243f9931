section
-- ===== PART A: goes FIRST, ahead of the names: the tables' words, and 'selects' of the private methods out of them =====
/-- a private method of a class that the tables say can be made, by its rows of tables_1 -/
def lw_okq (q : MethodName × Nat) : Prop := (q.1.cls ≠ "java/lang/invoke/MethodHandle" ∧ q.1.cls ≠ "java/lang/invoke/VarHandle") ∧ Cond.instantiable q.1.cls q.2 ∈ tables_1 ∧ Cond.privateMethod q.1 ∈ tables_1 ∧ Cond.instanceMethod q.1 ∈ tables_1
theorem lw_p0 : lw_okq (⟨"PosterFitter", "remember", "()V"⟩, 7) := ⟨⟨by decide +kernel, by decide +kernel⟩, List.mem_of_getElem? (i := 15) (by decide +kernel), List.mem_of_getElem? (i := 242) (by decide +kernel), List.mem_of_getElem? (i := 243) (by decide +kernel)⟩
theorem lw_p1 : lw_okq (⟨"PosterFitter", "dropOldest", "()V"⟩, 7) := ⟨⟨by decide +kernel, by decide +kernel⟩, List.mem_of_getElem? (i := 15) (by decide +kernel), List.mem_of_getElem? (i := 246) (by decide +kernel), List.mem_of_getElem? (i := 247) (by decide +kernel)⟩
theorem lw_p2 : lw_okq (⟨"PosterFitter$Canvas", "toggle", "(I)V"⟩, 4) := ⟨⟨by decide +kernel, by decide +kernel⟩, List.mem_of_getElem? (i := 29) (by decide +kernel), List.mem_of_getElem? (i := 266) (by decide +kernel), List.mem_of_getElem? (i := 267) (by decide +kernel)⟩
theorem lw_p3 : lw_okq (⟨"PosterFitter$Canvas", "columnsOf", "(II)J"⟩, 4) := ⟨⟨by decide +kernel, by decide +kernel⟩, List.mem_of_getElem? (i := 29) (by decide +kernel), List.mem_of_getElem? (i := 270) (by decide +kernel), List.mem_of_getElem? (i := 271) (by decide +kernel)⟩
theorem lw_p4 : lw_okq (⟨"PosterFitter$Bands", "findSpan", "(IJ)V"⟩, 3) := ⟨⟨by decide +kernel, by decide +kernel⟩, List.mem_of_getElem? (i := 105) (by decide +kernel), List.mem_of_getElem? (i := 334) (by decide +kernel), List.mem_of_getElem? (i := 335) (by decide +kernel)⟩
theorem lw_p5 : lw_okq (⟨"PosterFitter$Search", "prepare", "(LPosterFitter$State;III)Z"⟩, 18) := ⟨⟨by decide +kernel, by decide +kernel⟩, List.mem_of_getElem? (i := 99) (by decide +kernel), List.mem_of_getElem? (i := 390) (by decide +kernel), List.mem_of_getElem? (i := 391) (by decide +kernel)⟩
theorem lw_p6 : lw_okq (⟨"PosterFitter$Measures", "findLastEnds", "(LPosterFitter$State;)V"⟩, 7) := ⟨⟨by decide +kernel, by decide +kernel⟩, List.mem_of_getElem? (i := 121) (by decide +kernel), List.mem_of_getElem? (i := 402) (by decide +kernel), List.mem_of_getElem? (i := 403) (by decide +kernel)⟩
theorem lw_p7 : lw_okq (⟨"PosterFitter$Measures", "measureLines", "()V"⟩, 7) := ⟨⟨by decide +kernel, by decide +kernel⟩, List.mem_of_getElem? (i := 121) (by decide +kernel), List.mem_of_getElem? (i := 406) (by decide +kernel), List.mem_of_getElem? (i := 407) (by decide +kernel)⟩
theorem lw_p8 : lw_okq (⟨"PosterFitter$Search", "findLeastCosts", "()V"⟩, 18) := ⟨⟨by decide +kernel, by decide +kernel⟩, List.mem_of_getElem? (i := 99) (by decide +kernel), List.mem_of_getElem? (i := 414) (by decide +kernel), List.mem_of_getElem? (i := 415) (by decide +kernel)⟩
theorem lw_p9 : lw_okq (⟨"PosterFitter$Search", "findLeastCost", "(II)I"⟩, 18) := ⟨⟨by decide +kernel, by decide +kernel⟩, List.mem_of_getElem? (i := 99) (by decide +kernel), List.mem_of_getElem? (i := 418) (by decide +kernel), List.mem_of_getElem? (i := 419) (by decide +kernel)⟩
theorem lw_p10 : lw_okq (⟨"PosterFitter$Search", "slackOf", "(III)I"⟩, 18) := ⟨⟨by decide +kernel, by decide +kernel⟩, List.mem_of_getElem? (i := 99) (by decide +kernel), List.mem_of_getElem? (i := 422) (by decide +kernel), List.mem_of_getElem? (i := 423) (by decide +kernel)⟩
theorem lw_p11 : lw_okq (⟨"PosterFitter$Search", "rowBehind", "(III)I"⟩, 18) := ⟨⟨by decide +kernel, by decide +kernel⟩, List.mem_of_getElem? (i := 99) (by decide +kernel), List.mem_of_getElem? (i := 435) (by decide +kernel), List.mem_of_getElem? (i := 436) (by decide +kernel)⟩
theorem lw_p12 : lw_okq (⟨"PosterFitter$Search", "leastCostFrom", "(II)I"⟩, 18) := ⟨⟨by decide +kernel, by decide +kernel⟩, List.mem_of_getElem? (i := 99) (by decide +kernel), List.mem_of_getElem? (i := 439) (by decide +kernel), List.mem_of_getElem? (i := 440) (by decide +kernel)⟩
theorem lw_p13 : lw_okq (⟨"PosterFitter$Search", "run", "(IZ)V"⟩, 18) := ⟨⟨by decide +kernel, by decide +kernel⟩, List.mem_of_getElem? (i := 99) (by decide +kernel), List.mem_of_getElem? (i := 444) (by decide +kernel), List.mem_of_getElem? (i := 445) (by decide +kernel)⟩
theorem lw_p14 : lw_okq (⟨"PosterFitter$Search", "layFrom", "(III)V"⟩, 18) := ⟨⟨by decide +kernel, by decide +kernel⟩, List.mem_of_getElem? (i := 99) (by decide +kernel), List.mem_of_getElem? (i := 448) (by decide +kernel), List.mem_of_getElem? (i := 449) (by decide +kernel)⟩
theorem lw_p15 : lw_okq (⟨"PosterFitter$Search", "keep", "(II)V"⟩, 18) := ⟨⟨by decide +kernel, by decide +kernel⟩, List.mem_of_getElem? (i := 99) (by decide +kernel), List.mem_of_getElem? (i := 452) (by decide +kernel), List.mem_of_getElem? (i := 453) (by decide +kernel)⟩
def lw_privs_1 : List (MethodName × Nat) := [(⟨"PosterFitter", "remember", "()V"⟩, 7), (⟨"PosterFitter", "dropOldest", "()V"⟩, 7), (⟨"PosterFitter$Canvas", "toggle", "(I)V"⟩, 4), (⟨"PosterFitter$Canvas", "columnsOf", "(II)J"⟩, 4), (⟨"PosterFitter$Bands", "findSpan", "(IJ)V"⟩, 3), (⟨"PosterFitter$Search", "prepare", "(LPosterFitter$State;III)Z"⟩, 18), (⟨"PosterFitter$Measures", "findLastEnds", "(LPosterFitter$State;)V"⟩, 7), (⟨"PosterFitter$Measures", "measureLines", "()V"⟩, 7), (⟨"PosterFitter$Search", "findLeastCosts", "()V"⟩, 18), (⟨"PosterFitter$Search", "findLeastCost", "(II)I"⟩, 18), (⟨"PosterFitter$Search", "slackOf", "(III)I"⟩, 18), (⟨"PosterFitter$Search", "rowBehind", "(III)I"⟩, 18), (⟨"PosterFitter$Search", "leastCostFrom", "(II)I"⟩, 18), (⟨"PosterFitter$Search", "run", "(IZ)V"⟩, 18), (⟨"PosterFitter$Search", "layFrom", "(III)V"⟩, 18), (⟨"PosterFitter$Search", "keep", "(II)V"⟩, 18)]
theorem lw_r1 : ∀ q ∈ lw_privs_1, lw_okq q := List.forall_mem_cons.mpr ⟨lw_p0, List.forall_mem_cons.mpr ⟨lw_p1, List.forall_mem_cons.mpr ⟨lw_p2, List.forall_mem_cons.mpr ⟨lw_p3, List.forall_mem_cons.mpr ⟨lw_p4, List.forall_mem_cons.mpr ⟨lw_p5, List.forall_mem_cons.mpr ⟨lw_p6, List.forall_mem_cons.mpr ⟨lw_p7, List.forall_mem_cons.mpr ⟨lw_p8, List.forall_mem_cons.mpr ⟨lw_p9, List.forall_mem_cons.mpr ⟨lw_p10, List.forall_mem_cons.mpr ⟨lw_p11, List.forall_mem_cons.mpr ⟨lw_p12, List.forall_mem_cons.mpr ⟨lw_p13, List.forall_mem_cons.mpr ⟨lw_p14, List.forall_mem_cons.mpr ⟨lw_p15, fun _ h => absurd h List.not_mem_nil⟩⟩⟩⟩⟩⟩⟩⟩⟩⟩⟩⟩⟩⟩⟩⟩
theorem lw_p16 : lw_okq (⟨"PosterFitter$Search", "tryLine", "(IIII)V"⟩, 18) := ⟨⟨by decide +kernel, by decide +kernel⟩, List.mem_of_getElem? (i := 99) (by decide +kernel), List.mem_of_getElem? (i := 457) (by decide +kernel), List.mem_of_getElem? (i := 458) (by decide +kernel)⟩
theorem lw_p17 : lw_okq (⟨"PosterFitter$Search", "placeWords", "(IIII)V"⟩, 18) := ⟨⟨by decide +kernel, by decide +kernel⟩, List.mem_of_getElem? (i := 99) (by decide +kernel), List.mem_of_getElem? (i := 461) (by decide +kernel), List.mem_of_getElem? (i := 462) (by decide +kernel)⟩
theorem lw_p18 : lw_okq (⟨"PosterFitter$Search", "chainFromAbove", "(I)I"⟩, 18) := ⟨⟨by decide +kernel, by decide +kernel⟩, List.mem_of_getElem? (i := 99) (by decide +kernel), List.mem_of_getElem? (i := 466) (by decide +kernel), List.mem_of_getElem? (i := 467) (by decide +kernel)⟩
theorem lw_p19 : lw_okq (⟨"PosterFitter$Search", "longestTouching", "(III[I)I"⟩, 18) := ⟨⟨by decide +kernel, by decide +kernel⟩, List.mem_of_getElem? (i := 99) (by decide +kernel), List.mem_of_getElem? (i := 470) (by decide +kernel), List.mem_of_getElem? (i := 471) (by decide +kernel)⟩
theorem lw_p20 : lw_okq (⟨"PosterFitter", "greatestBase", "(I)I"⟩, 7) := ⟨⟨by decide +kernel, by decide +kernel⟩, List.mem_of_getElem? (i := 15) (by decide +kernel), List.mem_of_getElem? (i := 479) (by decide +kernel), List.mem_of_getElem? (i := 480) (by decide +kernel)⟩
theorem lw_p21 : lw_okq (⟨"PosterFitter$Search", "describeLine", "(LPosterFitter$Layout;II)V"⟩, 18) := ⟨⟨by decide +kernel, by decide +kernel⟩, List.mem_of_getElem? (i := 99) (by decide +kernel), List.mem_of_getElem? (i := 532) (by decide +kernel), List.mem_of_getElem? (i := 533) (by decide +kernel)⟩
theorem lw_p22 : lw_okq (⟨"PosterFitter$Search", "chainFromBelow", "(II)V"⟩, 18) := ⟨⟨by decide +kernel, by decide +kernel⟩, List.mem_of_getElem? (i := 99) (by decide +kernel), List.mem_of_getElem? (i := 536) (by decide +kernel), List.mem_of_getElem? (i := 537) (by decide +kernel)⟩
theorem lw_p23 : lw_okq (⟨"PosterFitter$Search", "describeWords", "(LPosterFitter$Layout;I)V"⟩, 18) := ⟨⟨by decide +kernel, by decide +kernel⟩, List.mem_of_getElem? (i := 99) (by decide +kernel), List.mem_of_getElem? (i := 540) (by decide +kernel), List.mem_of_getElem? (i := 541) (by decide +kernel)⟩
theorem lw_p24 : lw_okq (⟨"PosterFitter$TextReader", "accepts", "(I)Z"⟩, 3) := ⟨⟨by decide +kernel, by decide +kernel⟩, List.mem_of_getElem? (i := 81) (by decide +kernel), List.mem_of_getElem? (i := 584) (by decide +kernel), List.mem_of_getElem? (i := 585) (by decide +kernel)⟩
theorem lw_p25 : lw_okq (⟨"PosterFitter$TextReader", "addLetter", "()Z"⟩, 3) := ⟨⟨by decide +kernel, by decide +kernel⟩, List.mem_of_getElem? (i := 81) (by decide +kernel), List.mem_of_getElem? (i := 592) (by decide +kernel), List.mem_of_getElem? (i := 593) (by decide +kernel)⟩
theorem lw_p26 : lw_okq (⟨"PosterFitter$TextReader", "addUpTo", "(II)Z"⟩, 3) := ⟨⟨by decide +kernel, by decide +kernel⟩, List.mem_of_getElem? (i := 81) (by decide +kernel), List.mem_of_getElem? (i := 596) (by decide +kernel), List.mem_of_getElem? (i := 597) (by decide +kernel)⟩
theorem lw_p27 : lw_okq (⟨"PosterFitter$TextReader", "goTo", "(I)Z"⟩, 3) := ⟨⟨by decide +kernel, by decide +kernel⟩, List.mem_of_getElem? (i := 81) (by decide +kernel), List.mem_of_getElem? (i := 600) (by decide +kernel), List.mem_of_getElem? (i := 601) (by decide +kernel)⟩
theorem lw_p28 : lw_okq (⟨"PosterFitter$TextReader", "beginWord", "()Z"⟩, 3) := ⟨⟨by decide +kernel, by decide +kernel⟩, List.mem_of_getElem? (i := 81) (by decide +kernel), List.mem_of_getElem? (i := 604) (by decide +kernel), List.mem_of_getElem? (i := 605) (by decide +kernel)⟩
theorem lw_p29 : lw_okq (⟨"PosterFitter$TextReader", "addShout", "()Z"⟩, 3) := ⟨⟨by decide +kernel, by decide +kernel⟩, List.mem_of_getElem? (i := 81) (by decide +kernel), List.mem_of_getElem? (i := 608) (by decide +kernel), List.mem_of_getElem? (i := 609) (by decide +kernel)⟩
theorem lw_p30 : lw_okq (⟨"PosterFitterModel", "records", "()V"⟩, 20) := ⟨⟨by decide +kernel, by decide +kernel⟩, List.mem_of_getElem? (i := 632) (by decide +kernel), List.mem_of_getElem? (i := 706) (by decide +kernel), List.mem_of_getElem? (i := 707) (by decide +kernel)⟩
theorem lw_p31 : lw_okq (⟨"PosterFitterModel", "copies", "(II)V"⟩, 20) := ⟨⟨by decide +kernel, by decide +kernel⟩, List.mem_of_getElem? (i := 632) (by decide +kernel), List.mem_of_getElem? (i := 710) (by decide +kernel), List.mem_of_getElem? (i := 711) (by decide +kernel)⟩
def lw_privs_2 : List (MethodName × Nat) := [(⟨"PosterFitter$Search", "tryLine", "(IIII)V"⟩, 18), (⟨"PosterFitter$Search", "placeWords", "(IIII)V"⟩, 18), (⟨"PosterFitter$Search", "chainFromAbove", "(I)I"⟩, 18), (⟨"PosterFitter$Search", "longestTouching", "(III[I)I"⟩, 18), (⟨"PosterFitter", "greatestBase", "(I)I"⟩, 7), (⟨"PosterFitter$Search", "describeLine", "(LPosterFitter$Layout;II)V"⟩, 18), (⟨"PosterFitter$Search", "chainFromBelow", "(II)V"⟩, 18), (⟨"PosterFitter$Search", "describeWords", "(LPosterFitter$Layout;I)V"⟩, 18), (⟨"PosterFitter$TextReader", "accepts", "(I)Z"⟩, 3), (⟨"PosterFitter$TextReader", "addLetter", "()Z"⟩, 3), (⟨"PosterFitter$TextReader", "addUpTo", "(II)Z"⟩, 3), (⟨"PosterFitter$TextReader", "goTo", "(I)Z"⟩, 3), (⟨"PosterFitter$TextReader", "beginWord", "()Z"⟩, 3), (⟨"PosterFitter$TextReader", "addShout", "()Z"⟩, 3), (⟨"PosterFitterModel", "records", "()V"⟩, 20), (⟨"PosterFitterModel", "copies", "(II)V"⟩, 20)]
theorem lw_r2 : ∀ q ∈ lw_privs_2, lw_okq q := List.forall_mem_cons.mpr ⟨lw_p16, List.forall_mem_cons.mpr ⟨lw_p17, List.forall_mem_cons.mpr ⟨lw_p18, List.forall_mem_cons.mpr ⟨lw_p19, List.forall_mem_cons.mpr ⟨lw_p20, List.forall_mem_cons.mpr ⟨lw_p21, List.forall_mem_cons.mpr ⟨lw_p22, List.forall_mem_cons.mpr ⟨lw_p23, List.forall_mem_cons.mpr ⟨lw_p24, List.forall_mem_cons.mpr ⟨lw_p25, List.forall_mem_cons.mpr ⟨lw_p26, List.forall_mem_cons.mpr ⟨lw_p27, List.forall_mem_cons.mpr ⟨lw_p28, List.forall_mem_cons.mpr ⟨lw_p29, List.forall_mem_cons.mpr ⟨lw_p30, List.forall_mem_cons.mpr ⟨lw_p31, fun _ h => absurd h List.not_mem_nil⟩⟩⟩⟩⟩⟩⟩⟩⟩⟩⟩⟩⟩⟩⟩⟩
theorem lw_p32 : lw_okq (⟨"PosterFitterModel", "isShape", "(I)Z"⟩, 20) := ⟨⟨by decide +kernel, by decide +kernel⟩, List.mem_of_getElem? (i := 632) (by decide +kernel), List.mem_of_getElem? (i := 718) (by decide +kernel), List.mem_of_getElem? (i := 719) (by decide +kernel)⟩
theorem lw_p33 : lw_okq (⟨"PosterFitterModel", "shapeOf", "(II)I"⟩, 20) := ⟨⟨by decide +kernel, by decide +kernel⟩, List.mem_of_getElem? (i := 632) (by decide +kernel), List.mem_of_getElem? (i := 722) (by decide +kernel), List.mem_of_getElem? (i := 723) (by decide +kernel)⟩
theorem lw_p34 : lw_okq (⟨"PosterFitterModel", "freeCells", "()I"⟩, 20) := ⟨⟨by decide +kernel, by decide +kernel⟩, List.mem_of_getElem? (i := 632) (by decide +kernel), List.mem_of_getElem? (i := 726) (by decide +kernel), List.mem_of_getElem? (i := 727) (by decide +kernel)⟩
theorem lw_p35 : lw_okq (⟨"PosterFitterModel", "free", "(II)Z"⟩, 20) := ⟨⟨by decide +kernel, by decide +kernel⟩, List.mem_of_getElem? (i := 632) (by decide +kernel), List.mem_of_getElem? (i := 730) (by decide +kernel), List.mem_of_getElem? (i := 731) (by decide +kernel)⟩
theorem lw_p36 : lw_okq (⟨"PosterFitterModel", "belongs", "(III)Z"⟩, 20) := ⟨⟨by decide +kernel, by decide +kernel⟩, List.mem_of_getElem? (i := 632) (by decide +kernel), List.mem_of_getElem? (i := 734) (by decide +kernel), List.mem_of_getElem? (i := 735) (by decide +kernel)⟩
theorem lw_p37 : lw_okq (⟨"PosterFitterModel", "findsSpans", "()V"⟩, 20) := ⟨⟨by decide +kernel, by decide +kernel⟩, List.mem_of_getElem? (i := 632) (by decide +kernel), List.mem_of_getElem? (i := 753) (by decide +kernel), List.mem_of_getElem? (i := 754) (by decide +kernel)⟩
theorem lw_p38 : lw_okq (⟨"PosterFitterModel", "notesSpan", "(IJ)V"⟩, 20) := ⟨⟨by decide +kernel, by decide +kernel⟩, List.mem_of_getElem? (i := 632) (by decide +kernel), List.mem_of_getElem? (i := 757) (by decide +kernel), List.mem_of_getElem? (i := 758) (by decide +kernel)⟩
theorem lw_p39 : lw_okq (⟨"PosterFitterModel", "becomes", "(IIII)V"⟩, 20) := ⟨⟨by decide +kernel, by decide +kernel⟩, List.mem_of_getElem? (i := 632) (by decide +kernel), List.mem_of_getElem? (i := 765) (by decide +kernel), List.mem_of_getElem? (i := 766) (by decide +kernel)⟩
theorem lw_p40 : lw_okq (⟨"PosterFitterModel", "isWord", "(I)Z"⟩, 20) := ⟨⟨by decide +kernel, by decide +kernel⟩, List.mem_of_getElem? (i := 632) (by decide +kernel), List.mem_of_getElem? (i := 773) (by decide +kernel), List.mem_of_getElem? (i := 774) (by decide +kernel)⟩
theorem lw_p41 : lw_okq (⟨"PosterFitterModel", "of", "(II)I"⟩, 20) := ⟨⟨by decide +kernel, by decide +kernel⟩, List.mem_of_getElem? (i := 632) (by decide +kernel), List.mem_of_getElem? (i := 777) (by decide +kernel), List.mem_of_getElem? (i := 778) (by decide +kernel)⟩
theorem lw_p42 : lw_okq (⟨"PosterFitterModel", "finds", "(I)I"⟩, 20) := ⟨⟨by decide +kernel, by decide +kernel⟩, List.mem_of_getElem? (i := 632) (by decide +kernel), List.mem_of_getElem? (i := 805) (by decide +kernel), List.mem_of_getElem? (i := 806) (by decide +kernel)⟩
theorem lw_p43 : lw_okq (⟨"PosterFitterModel", "isLeast", "(I)Z"⟩, 20) := ⟨⟨by decide +kernel, by decide +kernel⟩, List.mem_of_getElem? (i := 632) (by decide +kernel), List.mem_of_getElem? (i := 809) (by decide +kernel), List.mem_of_getElem? (i := 810) (by decide +kernel)⟩
theorem lw_p44 : lw_okq (⟨"PosterFitterModel", "sizeOf", "(II)I"⟩, 20) := ⟨⟨by decide +kernel, by decide +kernel⟩, List.mem_of_getElem? (i := 632) (by decide +kernel), List.mem_of_getElem? (i := 813) (by decide +kernel), List.mem_of_getElem? (i := 814) (by decide +kernel)⟩
theorem lw_p45 : lw_okq (⟨"PosterFitterModel", "lays", "(II)I"⟩, 20) := ⟨⟨by decide +kernel, by decide +kernel⟩, List.mem_of_getElem? (i := 632) (by decide +kernel), List.mem_of_getElem? (i := 817) (by decide +kernel), List.mem_of_getElem? (i := 818) (by decide +kernel)⟩
theorem lw_p46 : lw_okq (⟨"PosterFitterModel", "breaks", "(II)Z"⟩, 20) := ⟨⟨by decide +kernel, by decide +kernel⟩, List.mem_of_getElem? (i := 632) (by decide +kernel), List.mem_of_getElem? (i := 824) (by decide +kernel), List.mem_of_getElem? (i := 825) (by decide +kernel)⟩
theorem lw_p47 : lw_okq (⟨"PosterFitterModel", "places", "(II)V"⟩, 20) := ⟨⟨by decide +kernel, by decide +kernel⟩, List.mem_of_getElem? (i := 632) (by decide +kernel), List.mem_of_getElem? (i := 828) (by decide +kernel), List.mem_of_getElem? (i := 829) (by decide +kernel)⟩
def lw_privs_3 : List (MethodName × Nat) := [(⟨"PosterFitterModel", "isShape", "(I)Z"⟩, 20), (⟨"PosterFitterModel", "shapeOf", "(II)I"⟩, 20), (⟨"PosterFitterModel", "freeCells", "()I"⟩, 20), (⟨"PosterFitterModel", "free", "(II)Z"⟩, 20), (⟨"PosterFitterModel", "belongs", "(III)Z"⟩, 20), (⟨"PosterFitterModel", "findsSpans", "()V"⟩, 20), (⟨"PosterFitterModel", "notesSpan", "(IJ)V"⟩, 20), (⟨"PosterFitterModel", "becomes", "(IIII)V"⟩, 20), (⟨"PosterFitterModel", "isWord", "(I)Z"⟩, 20), (⟨"PosterFitterModel", "of", "(II)I"⟩, 20), (⟨"PosterFitterModel", "finds", "(I)I"⟩, 20), (⟨"PosterFitterModel", "isLeast", "(I)Z"⟩, 20), (⟨"PosterFitterModel", "sizeOf", "(II)I"⟩, 20), (⟨"PosterFitterModel", "lays", "(II)I"⟩, 20), (⟨"PosterFitterModel", "breaks", "(II)Z"⟩, 20), (⟨"PosterFitterModel", "places", "(II)V"⟩, 20)]
theorem lw_r3 : ∀ q ∈ lw_privs_3, lw_okq q := List.forall_mem_cons.mpr ⟨lw_p32, List.forall_mem_cons.mpr ⟨lw_p33, List.forall_mem_cons.mpr ⟨lw_p34, List.forall_mem_cons.mpr ⟨lw_p35, List.forall_mem_cons.mpr ⟨lw_p36, List.forall_mem_cons.mpr ⟨lw_p37, List.forall_mem_cons.mpr ⟨lw_p38, List.forall_mem_cons.mpr ⟨lw_p39, List.forall_mem_cons.mpr ⟨lw_p40, List.forall_mem_cons.mpr ⟨lw_p41, List.forall_mem_cons.mpr ⟨lw_p42, List.forall_mem_cons.mpr ⟨lw_p43, List.forall_mem_cons.mpr ⟨lw_p44, List.forall_mem_cons.mpr ⟨lw_p45, List.forall_mem_cons.mpr ⟨lw_p46, List.forall_mem_cons.mpr ⟨lw_p47, fun _ h => absurd h List.not_mem_nil⟩⟩⟩⟩⟩⟩⟩⟩⟩⟩⟩⟩⟩⟩⟩⟩
theorem lw_p48 : lw_okq (⟨"PosterFitterModel", "chainsUp", "(II)V"⟩, 20) := ⟨⟨by decide +kernel, by decide +kernel⟩, List.mem_of_getElem? (i := 632) (by decide +kernel), List.mem_of_getElem? (i := 832) (by decide +kernel), List.mem_of_getElem? (i := 833) (by decide +kernel)⟩
theorem lw_p49 : lw_okq (⟨"PosterFitterModel", "hasGap", "(I)Z"⟩, 20) := ⟨⟨by decide +kernel, by decide +kernel⟩, List.mem_of_getElem? (i := 632) (by decide +kernel), List.mem_of_getElem? (i := 836) (by decide +kernel), List.mem_of_getElem? (i := 837) (by decide +kernel)⟩
theorem lw_p50 : lw_okq (⟨"PosterFitterModel", "touch", "(II)Z"⟩, 20) := ⟨⟨by decide +kernel, by decide +kernel⟩, List.mem_of_getElem? (i := 632) (by decide +kernel), List.mem_of_getElem? (i := 840) (by decide +kernel), List.mem_of_getElem? (i := 841) (by decide +kernel)⟩
theorem lw_p51 : lw_okq (⟨"PosterFitterModel", "gapFrom", "(I)I"⟩, 20) := ⟨⟨by decide +kernel, by decide +kernel⟩, List.mem_of_getElem? (i := 632) (by decide +kernel), List.mem_of_getElem? (i := 844) (by decide +kernel), List.mem_of_getElem? (i := 845) (by decide +kernel)⟩
theorem lw_p52 : lw_okq (⟨"PosterFitterModel", "fits", "()I"⟩, 20) := ⟨⟨by decide +kernel, by decide +kernel⟩, List.mem_of_getElem? (i := 632) (by decide +kernel), List.mem_of_getElem? (i := 852) (by decide +kernel), List.mem_of_getElem? (i := 853) (by decide +kernel)⟩
theorem lw_p53 : lw_okq (⟨"PosterFitterModel", "chains", "()V"⟩, 20) := ⟨⟨by decide +kernel, by decide +kernel⟩, List.mem_of_getElem? (i := 632) (by decide +kernel), List.mem_of_getElem? (i := 864) (by decide +kernel), List.mem_of_getElem? (i := 865) (by decide +kernel)⟩
theorem lw_p54 : lw_okq (⟨"PosterFitterModel", "readsText", "()Z"⟩, 20) := ⟨⟨by decide +kernel, by decide +kernel⟩, List.mem_of_getElem? (i := 632) (by decide +kernel), List.mem_of_getElem? (i := 900) (by decide +kernel), List.mem_of_getElem? (i := 901) (by decide +kernel)⟩
theorem lw_p55 : lw_okq (⟨"PosterFitterModel", "blanks", "()Z"⟩, 20) := ⟨⟨by decide +kernel, by decide +kernel⟩, List.mem_of_getElem? (i := 632) (by decide +kernel), List.mem_of_getElem? (i := 904) (by decide +kernel), List.mem_of_getElem? (i := 905) (by decide +kernel)⟩
theorem lw_p56 : lw_okq (⟨"PosterFitterModel", "isSign", "(I)Z"⟩, 20) := ⟨⟨by decide +kernel, by decide +kernel⟩, List.mem_of_getElem? (i := 632) (by decide +kernel), List.mem_of_getElem? (i := 908) (by decide +kernel), List.mem_of_getElem? (i := 909) (by decide +kernel)⟩
theorem lw_p57 : lw_okq (⟨"PosterFitterModel", "isLetter", "()Z"⟩, 20) := ⟨⟨by decide +kernel, by decide +kernel⟩, List.mem_of_getElem? (i := 632) (by decide +kernel), List.mem_of_getElem? (i := 912) (by decide +kernel), List.mem_of_getElem? (i := 913) (by decide +kernel)⟩
theorem lw_p58 : lw_okq (⟨"PosterFitterModel", "note", "(J)V"⟩, 20) := ⟨⟨by decide +kernel, by decide +kernel⟩, List.mem_of_getElem? (i := 632) (by decide +kernel), List.mem_of_getElem? (i := 930) (by decide +kernel), List.mem_of_getElem? (i := 931) (by decide +kernel)⟩
def lw_privs_4 : List (MethodName × Nat) := [(⟨"PosterFitterModel", "chainsUp", "(II)V"⟩, 20), (⟨"PosterFitterModel", "hasGap", "(I)Z"⟩, 20), (⟨"PosterFitterModel", "touch", "(II)Z"⟩, 20), (⟨"PosterFitterModel", "gapFrom", "(I)I"⟩, 20), (⟨"PosterFitterModel", "fits", "()I"⟩, 20), (⟨"PosterFitterModel", "chains", "()V"⟩, 20), (⟨"PosterFitterModel", "readsText", "()Z"⟩, 20), (⟨"PosterFitterModel", "blanks", "()Z"⟩, 20), (⟨"PosterFitterModel", "isSign", "(I)Z"⟩, 20), (⟨"PosterFitterModel", "isLetter", "()Z"⟩, 20), (⟨"PosterFitterModel", "note", "(J)V"⟩, 20)]
theorem lw_r4 : ∀ q ∈ lw_privs_4, lw_okq q := List.forall_mem_cons.mpr ⟨lw_p48, List.forall_mem_cons.mpr ⟨lw_p49, List.forall_mem_cons.mpr ⟨lw_p50, List.forall_mem_cons.mpr ⟨lw_p51, List.forall_mem_cons.mpr ⟨lw_p52, List.forall_mem_cons.mpr ⟨lw_p53, List.forall_mem_cons.mpr ⟨lw_p54, List.forall_mem_cons.mpr ⟨lw_p55, List.forall_mem_cons.mpr ⟨lw_p56, List.forall_mem_cons.mpr ⟨lw_p57, List.forall_mem_cons.mpr ⟨lw_p58, fun _ h => absurd h List.not_mem_nil⟩⟩⟩⟩⟩⟩⟩⟩⟩⟩⟩
def lw_privs : List (MethodName × Nat) := lw_privs_1 ++ (lw_privs_2 ++ (lw_privs_3 ++ (lw_privs_4)))
def lw_tbl : List Cond := k2_sels lw_privs ++ tables_1
theorem lw_privs_ok : ∀ q ∈ lw_privs, lw_okq q := by
  show ∀ q ∈ lw_privs_1 ++ (lw_privs_2 ++ (lw_privs_3 ++ (lw_privs_4))), lw_okq q
  exact List.forall_mem_append.mpr ⟨lw_r1, List.forall_mem_append.mpr ⟨lw_r2, List.forall_mem_append.mpr ⟨lw_r3, lw_r4⟩⟩⟩
-- ===== end of PART A; then your names; then what follows =====
def RX0 : String := "PosterFitter$Bands"
def TX0 : u_T := fun k => match k with
  | 0 => ("PosterFitter$Bands", "lengths", "[I", true)
  | 1 => ("PosterFitter$Bands", "firsts", "[I", true)
  | _ => ("PosterFitter$Bands", "changesKnown", "[I", true)
def tyX0 : Nat → FieldType := fun k => match k with
  | 0 => .array .int
  | 1 => .array .int
  | _ => .array .int
abbrev wsX00 : List Cond := u_ws RX0 TX0 3
theorem nmX0 : ∀ a, a < 3 → ∀ b, b < 3 → a ≠ b → (TX0 a).2.1 ≠ (TX0 b).2.1 := by decide +kernel
theorem tyX0_ok : ∀ k, k < 3 → parseFieldDescriptor (TX0 k).2.2.1 = some (tyX0 k) := by decide +kernel
abbrev cX0_init : ByteArray := prog_2_method_1_code
def yX0_init : MethodName := ⟨RX0, "<init>", "()V"⟩
abbrev cX0_learn : ByteArray := prog_2_method_2_code
def yX0_learn : MethodName := ⟨RX0, "learn", "(LPosterFitter$Canvas;I)V"⟩
abbrev cX0_lengthOf : ByteArray := prog_2_method_3_code
def yX0_lengthOf : MethodName := ⟨RX0, "lengthOf", "(II)I"⟩
abbrev cX0_firstOf : ByteArray := prog_2_method_4_code
def yX0_firstOf : MethodName := ⟨RX0, "firstOf", "(II)I"⟩
abbrev cX0_findSpan : ByteArray := prog_2_method_5_code
def yX0_findSpan : MethodName := ⟨RX0, "findSpan", "(IJ)V"⟩
def RX1 : String := "PosterFitter$Canvas"
def TX1 : u_T := fun k => match k with
  | 0 => ("PosterFitter$Canvas", "shapeCount", "I", false)
  | 1 => ("PosterFitter$Canvas", "changes", "I", false)
  | 2 => ("PosterFitter$Canvas", "shapes", "[I", true)
  | _ => ("PosterFitter$Canvas", "free", "[J", true)
def tyX1 : Nat → FieldType := fun k => match k with
  | 0 => .int
  | 1 => .int
  | 2 => .array .int
  | _ => .array .long
abbrev wsX10 : List Cond := u_ws RX1 TX1 4
theorem nmX1 : ∀ a, a < 4 → ∀ b, b < 4 → a ≠ b → (TX1 a).2.1 ≠ (TX1 b).2.1 := by decide +kernel
theorem tyX1_ok : ∀ k, k < 4 → parseFieldDescriptor (TX1 k).2.2.1 = some (tyX1 k) := by decide +kernel
abbrev cX1_init : ByteArray := prog_3_method_1_code
def yX1_init : MethodName := ⟨RX1, "<init>", "()V"⟩
abbrev cX1_copyFrom : ByteArray := prog_3_method_2_code
def yX1_copyFrom : MethodName := ⟨RX1, "copyFrom", "(LPosterFitter$Canvas;)V"⟩
abbrev cX1_append : ByteArray := prog_3_method_3_code
def yX1_append : MethodName := ⟨RX1, "append", "(IIIII)V"⟩
abbrev cX1_canShift : ByteArray := prog_3_method_4_code
def yX1_canShift : MethodName := ⟨RX1, "canShift", "(III)Z"⟩
abbrev cX1_shift : ByteArray := prog_3_method_5_code
def yX1_shift : MethodName := ⟨RX1, "shift", "(III)V"⟩
abbrev cX1_drop : ByteArray := prog_3_method_6_code
def yX1_drop : MethodName := ⟨RX1, "drop", "(I)V"⟩
abbrev cX1_isFreeAt : ByteArray := prog_3_method_7_code
def yX1_isFreeAt : MethodName := ⟨RX1, "isFreeAt", "(II)Z"⟩
abbrev cX1_freeCells : ByteArray := prog_3_method_8_code
def yX1_freeCells : MethodName := ⟨RX1, "freeCells", "()I"⟩
abbrev cX1_freeColumns : ByteArray := prog_3_method_9_code
def yX1_freeColumns : MethodName := ⟨RX1, "freeColumns", "(II)J"⟩
abbrev cX1_toggle : ByteArray := prog_3_method_10_code
def yX1_toggle : MethodName := ⟨RX1, "toggle", "(I)V"⟩
abbrev cX1_columnsOf : ByteArray := prog_3_method_11_code
def yX1_columnsOf : MethodName := ⟨RX1, "columnsOf", "(II)J"⟩
abbrev cX1_belongs : ByteArray := prog_3_method_12_code
def yX1_belongs : MethodName := ⟨RX1, "belongs", "(IIIIII)Z"⟩
def RX2 : String := "PosterFitter$Layout"
def TX2 : u_T := fun k => match k with
  | 0 => ("PosterFitter$Layout", "lineCount", "I", true)
  | 1 => ("PosterFitter$Layout", "wordCount", "I", true)
  | 2 => ("PosterFitter$Layout", "totals", "[I", true)
  | 3 => ("PosterFitter$Layout", "lines", "[I", true)
  | _ => ("PosterFitter$Layout", "words", "[I", true)
def tyX2 : Nat → FieldType := fun k => match k with
  | 0 => .int
  | 1 => .int
  | 2 => .array .int
  | 3 => .array .int
  | _ => .array .int
abbrev wsX20 : List Cond := u_ws RX2 TX2 5
theorem nmX2 : ∀ a, a < 5 → ∀ b, b < 5 → a ≠ b → (TX2 a).2.1 ≠ (TX2 b).2.1 := by decide +kernel
theorem tyX2_ok : ∀ k, k < 5 → parseFieldDescriptor (TX2 k).2.2.1 = some (tyX2 k) := by decide +kernel
abbrev cX2_init : ByteArray := prog_4_method_1_code
def yX2_init : MethodName := ⟨RX2, "<init>", "(II)V"⟩
abbrev cX2_putTotals : ByteArray := prog_4_method_2_code
def yX2_putTotals : MethodName := ⟨RX2, "putTotals", "(IIII)V"⟩
def RX3 : String := "PosterFitter$Measures"
def TX3 : u_T := fun k => match k with
  | 0 => ("PosterFitter$Measures", "wordCount", "I", false)
  | 1 => ("PosterFitter$Measures", "sizes", "[I", true)
  | 2 => ("PosterFitter$Measures", "widths", "[I", true)
  | 3 => ("PosterFitter$Measures", "gaps", "[I", true)
  | 4 => ("PosterFitter$Measures", "lastEnds", "[I", true)
  | 5 => ("PosterFitter$Measures", "lineWidths", "[I", true)
  | _ => ("PosterFitter$Measures", "lineHeights", "[I", true)
def tyX3 : Nat → FieldType := fun k => match k with
  | 0 => .int
  | 1 => .array .int
  | 2 => .array .int
  | 3 => .array .int
  | 4 => .array .int
  | 5 => .array .int
  | _ => .array .int
abbrev wsX30 : List Cond := u_ws RX3 TX3 7
theorem nmX3 : ∀ a, a < 7 → ∀ b, b < 7 → a ≠ b → (TX3 a).2.1 ≠ (TX3 b).2.1 := by decide +kernel
theorem tyX3_ok : ∀ k, k < 7 → parseFieldDescriptor (TX3 k).2.2.1 = some (tyX3 k) := by decide +kernel
abbrev cX3_init : ByteArray := prog_5_method_1_code
def yX3_init : MethodName := ⟨RX3, "<init>", "()V"⟩
abbrev cX3_measure : ByteArray := prog_5_method_2_code
def yX3_measure : MethodName := ⟨RX3, "measure", "(LPosterFitter$State;II)Z"⟩
abbrev cX3_widthOf : ByteArray := prog_5_method_3_code
def yX3_widthOf : MethodName := ⟨RX3, "widthOf", "(II)I"⟩
abbrev cX3_heightOf : ByteArray := prog_5_method_4_code
def yX3_heightOf : MethodName := ⟨RX3, "heightOf", "(II)I"⟩
abbrev cX3_findLastEnds : ByteArray := prog_5_method_5_code
def yX3_findLastEnds : MethodName := ⟨RX3, "findLastEnds", "(LPosterFitter$State;)V"⟩
abbrev cX3_measureLines : ByteArray := prog_5_method_6_code
def yX3_measureLines : MethodName := ⟨RX3, "measureLines", "()V"⟩
def RX4 : String := "PosterFitter$Search"
def TX4 : u_T := fun k => match k with
  | 0 => ("PosterFitter$Search", "bands", "LPosterFitter$Bands;", true)
  | 1 => ("PosterFitter$Search", "measures", "LPosterFitter$Measures;", true)
  | 2 => ("PosterFitter$Search", "top", "I", false)
  | 3 => ("PosterFitter$Search", "leading", "I", false)
  | 4 => ("PosterFitter$Search", "alignment", "I", false)
  | 5 => ("PosterFitter$Search", "limit", "I", false)
  | 6 => ("PosterFitter$Search", "leastCosts", "[I", true)
  | 7 => ("PosterFitter$Search", "firsts", "[I", true)
  | 8 => ("PosterFitter$Search", "columns", "[I", true)
  | 9 => ("PosterFitter$Search", "gapColumns", "[I", true)
  | 10 => ("PosterFitter$Search", "chainsAbove", "[I", true)
  | 11 => ("PosterFitter$Search", "chainsBelow", "[I", true)
  | 12 => ("PosterFitter$Search", "found", "I", false)
  | 13 => ("PosterFitter$Search", "wanted", "I", false)
  | 14 => ("PosterFitter$Search", "onlyCheaper", "Z", false)
  | 15 => ("PosterFitter$Search", "bestFirsts", "[I", true)
  | 16 => ("PosterFitter$Search", "bestLines", "I", false)
  | _ => ("PosterFitter$Search", "bestCost", "I", false)
def tyX4 : Nat → FieldType := fun k => match k with
  | 0 => .object "PosterFitter$Bands"
  | 1 => .object "PosterFitter$Measures"
  | 2 => .int
  | 3 => .int
  | 4 => .int
  | 5 => .int
  | 6 => .array .int
  | 7 => .array .int
  | 8 => .array .int
  | 9 => .array .int
  | 10 => .array .int
  | 11 => .array .int
  | 12 => .int
  | 13 => .int
  | 14 => .boolean
  | 15 => .array .int
  | 16 => .int
  | _ => .int
abbrev wsX40 : List Cond := u_ws RX4 TX4 18
theorem nmX4 : ∀ a, a < 18 → ∀ b, b < 18 → a ≠ b → (TX4 a).2.1 ≠ (TX4 b).2.1 := by decide +kernel
theorem tyX4_ok : ∀ k, k < 18 → parseFieldDescriptor (TX4 k).2.2.1 = some (tyX4 k) := by decide +kernel
abbrev cX4_init : ByteArray := prog_6_method_1_code
def yX4_init : MethodName := ⟨RX4, "<init>", "()V"⟩
abbrev cX4_hasLayout : ByteArray := prog_6_method_2_code
def yX4_hasLayout : MethodName := ⟨RX4, "hasLayout", "(LPosterFitter$State;III)Z"⟩
abbrev cX4_countLayouts : ByteArray := prog_6_method_3_code
def yX4_countLayouts : MethodName := ⟨RX4, "countLayouts", "(LPosterFitter$State;I)I"⟩
abbrev cX4_findBest : ByteArray := prog_6_method_4_code
def yX4_findBest : MethodName := ⟨RX4, "findBest", "(LPosterFitter$State;I)I"⟩
abbrev cX4_prepare : ByteArray := prog_6_method_5_code
def yX4_prepare : MethodName := ⟨RX4, "prepare", "(LPosterFitter$State;III)Z"⟩
abbrev cX4_run : ByteArray := prog_6_method_6_code
def yX4_run : MethodName := ⟨RX4, "run", "(IZ)V"⟩
abbrev cX4_findLeastCosts : ByteArray := prog_6_method_7_code
def yX4_findLeastCosts : MethodName := ⟨RX4, "findLeastCosts", "()V"⟩
abbrev cX4_findLeastCost : ByteArray := prog_6_method_8_code
def yX4_findLeastCost : MethodName := ⟨RX4, "findLeastCost", "(II)I"⟩
abbrev cX4_leastCostFrom : ByteArray := prog_6_method_9_code
def yX4_leastCostFrom : MethodName := ⟨RX4, "leastCostFrom", "(II)I"⟩
abbrev cX4_rowBehind : ByteArray := prog_6_method_10_code
def yX4_rowBehind : MethodName := ⟨RX4, "rowBehind", "(III)I"⟩
abbrev cX4_slackOf : ByteArray := prog_6_method_11_code
def yX4_slackOf : MethodName := ⟨RX4, "slackOf", "(III)I"⟩
abbrev cX4_layFrom : ByteArray := prog_6_method_12_code
def yX4_layFrom : MethodName := ⟨RX4, "layFrom", "(III)V"⟩
abbrev cX4_tryLine : ByteArray := prog_6_method_13_code
def yX4_tryLine : MethodName := ⟨RX4, "tryLine", "(IIII)V"⟩
abbrev cX4_keep : ByteArray := prog_6_method_14_code
def yX4_keep : MethodName := ⟨RX4, "keep", "(II)V"⟩
abbrev cX4_placeWords : ByteArray := prog_6_method_15_code
def yX4_placeWords : MethodName := ⟨RX4, "placeWords", "(IIII)V"⟩
abbrev cX4_chainFromAbove : ByteArray := prog_6_method_16_code
def yX4_chainFromAbove : MethodName := ⟨RX4, "chainFromAbove", "(I)I"⟩
abbrev cX4_chainFromBelow : ByteArray := prog_6_method_17_code
def yX4_chainFromBelow : MethodName := ⟨RX4, "chainFromBelow", "(II)V"⟩
abbrev cX4_longestTouching : ByteArray := prog_6_method_18_code
def yX4_longestTouching : MethodName := ⟨RX4, "longestTouching", "(III[I)I"⟩
abbrev cX4_describeBest : ByteArray := prog_6_method_19_code
def yX4_describeBest : MethodName := ⟨RX4, "describeBest", "(I)LPosterFitter$Layout;"⟩
abbrev cX4_describeLine : ByteArray := prog_6_method_20_code
def yX4_describeLine : MethodName := ⟨RX4, "describeLine", "(LPosterFitter$Layout;II)V"⟩
abbrev cX4_describeWords : ByteArray := prog_6_method_21_code
def yX4_describeWords : MethodName := ⟨RX4, "describeWords", "(LPosterFitter$Layout;I)V"⟩
def RX5 : String := "PosterFitter$State"
def TX5 : u_T := fun k => match k with
  | 0 => ("PosterFitter$State", "canvas", "LPosterFitter$Canvas;", true)
  | 1 => ("PosterFitter$State", "wordCount", "I", false)
  | 2 => ("PosterFitter$State", "words", "[I", true)
  | 3 => ("PosterFitter$State", "settings", "[I", true)
  | _ => ("PosterFitter$State", "present", "LPosterFitter$Layout;", false)
def tyX5 : Nat → FieldType := fun k => match k with
  | 0 => .object "PosterFitter$Canvas"
  | 1 => .int
  | 2 => .array .int
  | 3 => .array .int
  | _ => .object "PosterFitter$Layout"
abbrev wsX50 : List Cond := u_ws RX5 TX5 5
theorem nmX5 : ∀ a, a < 5 → ∀ b, b < 5 → a ≠ b → (TX5 a).2.1 ≠ (TX5 b).2.1 := by decide +kernel
theorem tyX5_ok : ∀ k, k < 5 → parseFieldDescriptor (TX5 k).2.2.1 = some (tyX5 k) := by decide +kernel
abbrev cX5_init : ByteArray := prog_7_method_1_code
def yX5_init : MethodName := ⟨RX5, "<init>", "()V"⟩
abbrev cX5_copyFrom : ByteArray := prog_7_method_2_code
def yX5_copyFrom : MethodName := ⟨RX5, "copyFrom", "(LPosterFitter$State;)V"⟩
abbrev cX5_partOfWord : ByteArray := prog_7_method_3_code
def yX5_partOfWord : MethodName := ⟨RX5, "partOfWord", "(II)I"⟩
abbrev cX5_putWord : ByteArray := prog_7_method_4_code
def yX5_putWord : MethodName := ⟨RX5, "putWord", "(IIII)V"⟩
def RX6 : String := "PosterFitter$TextReader"
def TX6 : u_T := fun k => match k with
  | 0 => ("PosterFitter$TextReader", "wordCount", "I", false)
  | 1 => ("PosterFitter$TextReader", "words", "[I", true)
  | _ => ("PosterFitter$TextReader", "place", "I", false)
def tyX6 : Nat → FieldType := fun k => match k with
  | 0 => .int
  | 1 => .array .int
  | _ => .int
abbrev wsX60 : List Cond := u_ws RX6 TX6 3
theorem nmX6 : ∀ a, a < 3 → ∀ b, b < 3 → a ≠ b → (TX6 a).2.1 ≠ (TX6 b).2.1 := by decide +kernel
theorem tyX6_ok : ∀ k, k < 3 → parseFieldDescriptor (TX6 k).2.2.1 = some (tyX6 k) := by decide +kernel
abbrev cX6_init : ByteArray := prog_8_method_1_code
def yX6_init : MethodName := ⟨RX6, "<init>", "()V"⟩
abbrev cX6_read : ByteArray := prog_8_method_2_code
def yX6_read : MethodName := ⟨RX6, "read", "([II)I"⟩
abbrev cX6_accepts : ByteArray := prog_8_method_3_code
def yX6_accepts : MethodName := ⟨RX6, "accepts", "(I)Z"⟩
abbrev cX6_isLetter : ByteArray := prog_8_method_4_code
def yX6_isLetter : MethodName := ⟨RX6, "isLetter", "(I)Z"⟩
abbrev cX6_goTo : ByteArray := prog_8_method_5_code
def yX6_goTo : MethodName := ⟨RX6, "goTo", "(I)Z"⟩
abbrev cX6_beginWord : ByteArray := prog_8_method_6_code
def yX6_beginWord : MethodName := ⟨RX6, "beginWord", "()Z"⟩
abbrev cX6_addLetter : ByteArray := prog_8_method_7_code
def yX6_addLetter : MethodName := ⟨RX6, "addLetter", "()Z"⟩
abbrev cX6_addShout : ByteArray := prog_8_method_8_code
def yX6_addShout : MethodName := ⟨RX6, "addShout", "()Z"⟩
abbrev cX6_addUpTo : ByteArray := prog_8_method_9_code
def yX6_addUpTo : MethodName := ⟨RX6, "addUpTo", "(II)Z"⟩
def RX7 : String := "PosterFitter"
def TX7 : u_T := fun k => match k with
  | 0 => ("PosterFitter", "state", "LPosterFitter$State;", true)
  | 1 => ("PosterFitter", "history", "[LPosterFitter$State;", true)
  | 2 => ("PosterFitter", "recorded", "I", false)
  | 3 => ("PosterFitter", "text", "[I", true)
  | 4 => ("PosterFitter", "textLength", "I", false)
  | 5 => ("PosterFitter", "reader", "LPosterFitter$TextReader;", true)
  | _ => ("PosterFitter", "search", "LPosterFitter$Search;", true)
def tyX7 : Nat → FieldType := fun k => match k with
  | 0 => .object "PosterFitter$State"
  | 1 => .array (.object "PosterFitter$State")
  | 2 => .int
  | 3 => .array .int
  | 4 => .int
  | 5 => .object "PosterFitter$TextReader"
  | _ => .object "PosterFitter$Search"
abbrev wsX70 : List Cond := u_ws RX7 TX7 7
theorem nmX7 : ∀ a, a < 7 → ∀ b, b < 7 → a ≠ b → (TX7 a).2.1 ≠ (TX7 b).2.1 := by decide +kernel
theorem tyX7_ok : ∀ k, k < 7 → parseFieldDescriptor (TX7 k).2.2.1 = some (tyX7 k) := by decide +kernel
abbrev cX7_init : ByteArray := prog_1_method_1_code
def yX7_init : MethodName := ⟨RX7, "<init>", "()V"⟩
abbrev cX7_addShape : ByteArray := prog_1_method_2_code
def yX7_addShape : MethodName := ⟨RX7, "addShape", "(IIIII)I"⟩
abbrev cX7_moveShape : ByteArray := prog_1_method_3_code
def yX7_moveShape : MethodName := ⟨RX7, "moveShape", "(III)I"⟩
abbrev cX7_removeShape : ByteArray := prog_1_method_4_code
def yX7_removeShape : MethodName := ⟨RX7, "removeShape", "(I)I"⟩
abbrev cX7_isFree : ByteArray := prog_1_method_5_code
def yX7_isFree : MethodName := ⟨RX7, "isFree", "(II)I"⟩
abbrev cX7_span : ByteArray := prog_1_method_6_code
def yX7_span : MethodName := ⟨RX7, "span", "(III)I"⟩
abbrev cX7_addWord : ByteArray := prog_1_method_7_code
def yX7_addWord : MethodName := ⟨RX7, "addWord", "(II)I"⟩
abbrev cX7_setWord : ByteArray := prog_1_method_8_code
def yX7_setWord : MethodName := ⟨RX7, "setWord", "(IIIZ)I"⟩
abbrev cX7_clearWords : ByteArray := prog_1_method_9_code
def yX7_clearWords : MethodName := ⟨RX7, "clearWords", "()I"⟩
abbrev cX7_setSizes : ByteArray := prog_1_method_10_code
def yX7_setSizes : MethodName := ⟨RX7, "setSizes", "(IIII)I"⟩
abbrev cX7_setLines : ByteArray := prog_1_method_11_code
def yX7_setLines : MethodName := ⟨RX7, "setLines", "(IIII)I"⟩
abbrev cX7_count : ByteArray := prog_1_method_12_code
def yX7_count : MethodName := ⟨RX7, "count", "(I)I"⟩
abbrev cX7_word : ByteArray := prog_1_method_13_code
def yX7_word : MethodName := ⟨RX7, "word", "(II)I"⟩
abbrev cX7_cost : ByteArray := prog_1_method_14_code
def yX7_cost : MethodName := ⟨RX7, "cost", "(I)I"⟩
abbrev cX7_fit : ByteArray := prog_1_method_15_code
def yX7_fit : MethodName := ⟨RX7, "fit", "()I"⟩
abbrev cX7_allowed : ByteArray := prog_1_method_16_code
def yX7_allowed : MethodName := ⟨RX7, "allowed", "(I)I"⟩
abbrev cX7_take : ByteArray := prog_1_method_17_code
def yX7_take : MethodName := ⟨RX7, "take", "(I)I"⟩
abbrev cX7_widestStep : ByteArray := prog_1_method_18_code
def yX7_widestStep : MethodName := ⟨RX7, "widestStep", "(I)I"⟩
abbrev cX7_tightestLimit : ByteArray := prog_1_method_19_code
def yX7_tightestLimit : MethodName := ⟨RX7, "tightestLimit", "()I"⟩
abbrev cX7_layout : ByteArray := prog_1_method_20_code
def yX7_layout : MethodName := ⟨RX7, "layout", "(I)I"⟩
abbrev cX7_line : ByteArray := prog_1_method_21_code
def yX7_line : MethodName := ⟨RX7, "line", "(II)I"⟩
abbrev cX7_placed : ByteArray := prog_1_method_22_code
def yX7_placed : MethodName := ⟨RX7, "placed", "(II)I"⟩
abbrev cX7_type : ByteArray := prog_1_method_23_code
def yX7_type : MethodName := ⟨RX7, "type", "(I)I"⟩
abbrev cX7_clearText : ByteArray := prog_1_method_24_code
def yX7_clearText : MethodName := ⟨RX7, "clearText", "()I"⟩
abbrev cX7_textFault : ByteArray := prog_1_method_25_code
def yX7_textFault : MethodName := ⟨RX7, "textFault", "()I"⟩
abbrev cX7_load : ByteArray := prog_1_method_26_code
def yX7_load : MethodName := ⟨RX7, "load", "()I"⟩
abbrev cX7_undo : ByteArray := prog_1_method_27_code
def yX7_undo : MethodName := ⟨RX7, "undo", "()I"⟩
abbrev cX7_digest : ByteArray := prog_1_method_28_code
def yX7_digest : MethodName := ⟨RX7, "digest", "()J"⟩
abbrev cX7_isIn : ByteArray := prog_1_method_29_code
def yX7_isIn : MethodName := ⟨RX7, "isIn", "(III)Z"⟩
abbrev cX7_isBox : ByteArray := prog_1_method_30_code
def yX7_isBox : MethodName := ⟨RX7, "isBox", "(IIII)Z"⟩
abbrev cX7_isBand : ByteArray := prog_1_method_31_code
def yX7_isBand : MethodName := ⟨RX7, "isBand", "(II)Z"⟩
abbrev cX7_addAll : ByteArray := prog_1_method_32_code
def yX7_addAll : MethodName := ⟨RX7, "addAll", "(J[II)J"⟩
abbrev cX7_remember : ByteArray := prog_1_method_33_code
def yX7_remember : MethodName := ⟨RX7, "remember", "()V"⟩
abbrev cX7_dropOldest : ByteArray := prog_1_method_34_code
def yX7_dropOldest : MethodName := ⟨RX7, "dropOldest", "()V"⟩
abbrev cX7_greatestBase : ByteArray := prog_1_method_35_code
def yX7_greatestBase : MethodName := ⟨RX7, "greatestBase", "(I)I"⟩
def RX8 : String := "PosterFitterModel"
def TX8 : u_T := fun k => match k with
  | 0 => ("PosterFitterModel", "row", "[I", true)
  | 1 => ("PosterFitterModel", "kept", "I", false)
  | 2 => ("PosterFitterModel", "spanLong", "[I", true)
  | 3 => ("PosterFitterModel", "spanAt", "[I", true)
  | 4 => ("PosterFitterModel", "open", "[J", true)
  | 5 => ("PosterFitterModel", "line", "[I", true)
  | 6 => ("PosterFitterModel", "placed", "[I", true)
  | 7 => ("PosterFitterModel", "lines", "I", false)
  | 8 => ("PosterFitterModel", "up", "[I", true)
  | 9 => ("PosterFitterModel", "down", "[I", true)
  | 10 => ("PosterFitterModel", "longest", "I", false)
  | 11 => ("PosterFitterModel", "failed", "I", false)
  | 12 => ("PosterFitterModel", "many", "I", false)
  | 13 => ("PosterFitterModel", "bestCode", "I", false)
  | 14 => ("PosterFitterModel", "text", "[I", true)
  | 15 => ("PosterFitterModel", "length", "I", false)
  | 16 => ("PosterFitterModel", "at", "I", false)
  | 17 => ("PosterFitterModel", "read", "[I", true)
  | 18 => ("PosterFitterModel", "reads", "I", false)
  | _ => ("PosterFitterModel", "h", "J", false)
def tyX8 : Nat → FieldType := fun k => match k with
  | 0 => .array .int
  | 1 => .int
  | 2 => .array .int
  | 3 => .array .int
  | 4 => .array .long
  | 5 => .array .int
  | 6 => .array .int
  | 7 => .int
  | 8 => .array .int
  | 9 => .array .int
  | 10 => .int
  | 11 => .int
  | 12 => .int
  | 13 => .int
  | 14 => .array .int
  | 15 => .int
  | 16 => .int
  | 17 => .array .int
  | 18 => .int
  | _ => .long
abbrev wsX80 : List Cond := u_ws RX8 TX8 20
theorem nmX8 : ∀ a, a < 20 → ∀ b, b < 20 → a ≠ b → (TX8 a).2.1 ≠ (TX8 b).2.1 := by decide +kernel
theorem tyX8_ok : ∀ k, k < 20 → parseFieldDescriptor (TX8 k).2.2.1 = some (tyX8 k) := by decide +kernel
abbrev cX8_init : ByteArray := prog_10_method_1_code
def yX8_init : MethodName := ⟨RX8, "<init>", "()V"⟩
abbrev cX8_in : ByteArray := prog_10_method_2_code
def yX8_in : MethodName := ⟨RX8, "in", "(III)Z"⟩
abbrev cX8_copies : ByteArray := prog_10_method_3_code
def yX8_copies : MethodName := ⟨RX8, "copies", "(II)V"⟩
abbrev cX8_records : ByteArray := prog_10_method_4_code
def yX8_records : MethodName := ⟨RX8, "records", "()V"⟩
abbrev cX8_shapeOf : ByteArray := prog_10_method_5_code
def yX8_shapeOf : MethodName := ⟨RX8, "shapeOf", "(II)I"⟩
abbrev cX8_size : ByteArray := prog_10_method_6_code
def yX8_size : MethodName := ⟨RX8, "size", "(I)I"⟩
abbrev cX8_belongs : ByteArray := prog_10_method_7_code
def yX8_belongs : MethodName := ⟨RX8, "belongs", "(III)Z"⟩
abbrev cX8_free : ByteArray := prog_10_method_8_code
def yX8_free : MethodName := ⟨RX8, "free", "(II)Z"⟩
abbrev cX8_freeCells : ByteArray := prog_10_method_9_code
def yX8_freeCells : MethodName := ⟨RX8, "freeCells", "()I"⟩
abbrev cX8_isShape : ByteArray := prog_10_method_10_code
def yX8_isShape : MethodName := ⟨RX8, "isShape", "(I)Z"⟩
abbrev cX8_addShape : ByteArray := prog_10_method_11_code
def yX8_addShape : MethodName := ⟨RX8, "addShape", "(IIIII)I"⟩
abbrev cX8_moveShape : ByteArray := prog_10_method_12_code
def yX8_moveShape : MethodName := ⟨RX8, "moveShape", "(III)I"⟩
abbrev cX8_removeShape : ByteArray := prog_10_method_13_code
def yX8_removeShape : MethodName := ⟨RX8, "removeShape", "(I)I"⟩
abbrev cX8_isFree : ByteArray := prog_10_method_14_code
def yX8_isFree : MethodName := ⟨RX8, "isFree", "(II)I"⟩
abbrev cX8_findsSpans : ByteArray := prog_10_method_15_code
def yX8_findsSpans : MethodName := ⟨RX8, "findsSpans", "()V"⟩
abbrev cX8_notesSpan : ByteArray := prog_10_method_16_code
def yX8_notesSpan : MethodName := ⟨RX8, "notesSpan", "(IJ)V"⟩
abbrev cX8_span : ByteArray := prog_10_method_17_code
def yX8_span : MethodName := ⟨RX8, "span", "(III)I"⟩
abbrev cX8_of : ByteArray := prog_10_method_18_code
def yX8_of : MethodName := ⟨RX8, "of", "(II)I"⟩
abbrev cX8_isWord : ByteArray := prog_10_method_19_code
def yX8_isWord : MethodName := ⟨RX8, "isWord", "(I)Z"⟩
abbrev cX8_becomes : ByteArray := prog_10_method_20_code
def yX8_becomes : MethodName := ⟨RX8, "becomes", "(IIII)V"⟩
abbrev cX8_addWord : ByteArray := prog_10_method_21_code
def yX8_addWord : MethodName := ⟨RX8, "addWord", "(II)I"⟩
abbrev cX8_setWord : ByteArray := prog_10_method_22_code
def yX8_setWord : MethodName := ⟨RX8, "setWord", "(IIIZ)I"⟩
abbrev cX8_clearWords : ByteArray := prog_10_method_23_code
def yX8_clearWords : MethodName := ⟨RX8, "clearWords", "()I"⟩
abbrev cX8_setSizes : ByteArray := prog_10_method_24_code
def yX8_setSizes : MethodName := ⟨RX8, "setSizes", "(IIII)I"⟩
abbrev cX8_setLines : ByteArray := prog_10_method_25_code
def yX8_setLines : MethodName := ⟨RX8, "setLines", "(IIII)I"⟩
abbrev cX8_count : ByteArray := prog_10_method_26_code
def yX8_count : MethodName := ⟨RX8, "count", "(I)I"⟩
abbrev cX8_word : ByteArray := prog_10_method_27_code
def yX8_word : MethodName := ⟨RX8, "word", "(II)I"⟩
abbrev cX8_sizeOf : ByteArray := prog_10_method_28_code
def yX8_sizeOf : MethodName := ⟨RX8, "sizeOf", "(II)I"⟩
abbrev cX8_isLeast : ByteArray := prog_10_method_29_code
def yX8_isLeast : MethodName := ⟨RX8, "isLeast", "(I)Z"⟩
abbrev cX8_breaks : ByteArray := prog_10_method_30_code
def yX8_breaks : MethodName := ⟨RX8, "breaks", "(II)Z"⟩
abbrev cX8_least : ByteArray := prog_10_method_31_code
def yX8_least : MethodName := ⟨RX8, "least", "(II)I"⟩
abbrev cX8_lays : ByteArray := prog_10_method_32_code
def yX8_lays : MethodName := ⟨RX8, "lays", "(II)I"⟩
abbrev cX8_places : ByteArray := prog_10_method_33_code
def yX8_places : MethodName := ⟨RX8, "places", "(II)V"⟩
abbrev cX8_hasGap : ByteArray := prog_10_method_34_code
def yX8_hasGap : MethodName := ⟨RX8, "hasGap", "(I)Z"⟩
abbrev cX8_gapFrom : ByteArray := prog_10_method_35_code
def yX8_gapFrom : MethodName := ⟨RX8, "gapFrom", "(I)I"⟩
abbrev cX8_touch : ByteArray := prog_10_method_36_code
def yX8_touch : MethodName := ⟨RX8, "touch", "(II)Z"⟩
abbrev cX8_chainsUp : ByteArray := prog_10_method_37_code
def yX8_chainsUp : MethodName := ⟨RX8, "chainsUp", "(II)V"⟩
abbrev cX8_chains : ByteArray := prog_10_method_38_code
def yX8_chains : MethodName := ⟨RX8, "chains", "()V"⟩
abbrev cX8_finds : ByteArray := prog_10_method_39_code
def yX8_finds : MethodName := ⟨RX8, "finds", "(I)I"⟩
abbrev cX8_fits : ByteArray := prog_10_method_40_code
def yX8_fits : MethodName := ⟨RX8, "fits", "()I"⟩
abbrev cX8_cost : ByteArray := prog_10_method_41_code
def yX8_cost : MethodName := ⟨RX8, "cost", "(I)I"⟩
abbrev cX8_fit : ByteArray := prog_10_method_42_code
def yX8_fit : MethodName := ⟨RX8, "fit", "()I"⟩
abbrev cX8_allowed : ByteArray := prog_10_method_43_code
def yX8_allowed : MethodName := ⟨RX8, "allowed", "(I)I"⟩
abbrev cX8_take : ByteArray := prog_10_method_44_code
def yX8_take : MethodName := ⟨RX8, "take", "(I)I"⟩
abbrev cX8_widestStep : ByteArray := prog_10_method_45_code
def yX8_widestStep : MethodName := ⟨RX8, "widestStep", "(I)I"⟩
abbrev cX8_tightestLimit : ByteArray := prog_10_method_46_code
def yX8_tightestLimit : MethodName := ⟨RX8, "tightestLimit", "()I"⟩
abbrev cX8_layout : ByteArray := prog_10_method_47_code
def yX8_layout : MethodName := ⟨RX8, "layout", "(I)I"⟩
abbrev cX8_line : ByteArray := prog_10_method_48_code
def yX8_line : MethodName := ⟨RX8, "line", "(II)I"⟩
abbrev cX8_placed : ByteArray := prog_10_method_49_code
def yX8_placed : MethodName := ⟨RX8, "placed", "(II)I"⟩
abbrev cX8_type : ByteArray := prog_10_method_50_code
def yX8_type : MethodName := ⟨RX8, "type", "(I)I"⟩
abbrev cX8_clearText : ByteArray := prog_10_method_51_code
def yX8_clearText : MethodName := ⟨RX8, "clearText", "()I"⟩
abbrev cX8_isLetter : ByteArray := prog_10_method_52_code
def yX8_isLetter : MethodName := ⟨RX8, "isLetter", "()Z"⟩
abbrev cX8_isSign : ByteArray := prog_10_method_53_code
def yX8_isSign : MethodName := ⟨RX8, "isSign", "(I)Z"⟩
abbrev cX8_blanks : ByteArray := prog_10_method_54_code
def yX8_blanks : MethodName := ⟨RX8, "blanks", "()Z"⟩
abbrev cX8_readsText : ByteArray := prog_10_method_55_code
def yX8_readsText : MethodName := ⟨RX8, "readsText", "()Z"⟩
abbrev cX8_textFault : ByteArray := prog_10_method_56_code
def yX8_textFault : MethodName := ⟨RX8, "textFault", "()I"⟩
abbrev cX8_load : ByteArray := prog_10_method_57_code
def yX8_load : MethodName := ⟨RX8, "load", "()I"⟩
abbrev cX8_undo : ByteArray := prog_10_method_58_code
def yX8_undo : MethodName := ⟨RX8, "undo", "()I"⟩
abbrev cX8_note : ByteArray := prog_10_method_59_code
def yX8_note : MethodName := ⟨RX8, "note", "(J)V"⟩
abbrev cX8_digest : ByteArray := prog_10_method_60_code
def yX8_digest : MethodName := ⟨RX8, "digest", "()J"⟩
def RJ13 : String := "java/lang/Long"
def TJ13 : u_T := fun k => match k with
  | _ => ("", "", "", false)
def tyJ13 : Nat → FieldType := fun k => match k with
  | _ => .int
abbrev wsJ130 : List Cond := u_ws RJ13 TJ13 0
theorem nmJ13 : ∀ a, a < 0 → ∀ b, b < 0 → a ≠ b → (TJ13 a).2.1 ≠ (TJ13 b).2.1 := by decide +kernel
theorem tyJ13_ok : ∀ k, k < 0 → parseFieldDescriptor (TJ13 k).2.2.1 = some (tyJ13 k) := by decide +kernel
abbrev cJ13_bitCount_95d88 : ByteArray := prog_11_method_50_code
def yJ13_bitCount_95d88 : MethodName := ⟨RJ13, "bitCount", "(J)I"⟩
def RJ9 : String := "java/lang/Math"
def TJ9 : u_T := fun k => match k with
  | _ => ("", "", "", false)
def tyJ9 : Nat → FieldType := fun k => match k with
  | _ => .int
abbrev wsJ90 : List Cond := u_ws RJ9 TJ9 0
theorem nmJ9 : ∀ a, a < 0 → ∀ b, b < 0 → a ≠ b → (TJ9 a).2.1 ≠ (TJ9 b).2.1 := by decide +kernel
theorem tyJ9_ok : ∀ k, k < 0 → parseFieldDescriptor (TJ9 k).2.2.1 = some (tyJ9 k) := by decide +kernel
abbrev cJ9_abs_0f7a4 : ByteArray := prog_12_method_59_code
def yJ9_abs_0f7a4 : MethodName := ⟨RJ9, "abs", "(I)I"⟩
abbrev cJ9_max_7cf53 : ByteArray := prog_12_method_65_code
def yJ9_max_7cf53 : MethodName := ⟨RJ9, "max", "(II)I"⟩
abbrev cJ9_min_7cf53 : ByteArray := prog_12_method_69_code
def yJ9_min_7cf53 : MethodName := ⟨RJ9, "min", "(II)I"⟩
def RJ10 : String := "java/lang/System"
def TJ10 : u_T := fun k => match k with
  | _ => ("", "", "", false)
def tyJ10 : Nat → FieldType := fun k => match k with
  | _ => .int
abbrev wsJ100 : List Cond := u_ws RJ10 TJ10 0
theorem nmJ10 : ∀ a, a < 0 → ∀ b, b < 0 → a ≠ b → (TJ10 a).2.1 ≠ (TJ10 b).2.1 := by decide +kernel
theorem tyJ10_ok : ∀ k, k < 0 → parseFieldDescriptor (TJ10 k).2.2.1 = some (tyJ10 k) := by decide +kernel
def RJ7 : String := "java/util/Arrays"
def TJ7 : u_T := fun k => match k with
  | _ => ("", "", "", false)
def tyJ7 : Nat → FieldType := fun k => match k with
  | _ => .int
abbrev wsJ70 : List Cond := u_ws RJ7 TJ7 0
theorem nmJ7 : ∀ a, a < 0 → ∀ b, b < 0 → a ≠ b → (TJ7 a).2.1 ≠ (TJ7 b).2.1 := by decide +kernel
theorem tyJ7_ok : ∀ k, k < 0 → parseFieldDescriptor (TJ7 k).2.2.1 = some (tyJ7 k) := by decide +kernel
abbrev cJ7_fill_53178 : ByteArray := prog_14_method_103_code
def yJ7_fill_53178 : MethodName := ⟨RJ7, "fill", "([II)V"⟩
def RL : String := "PosterFitterLaw"
abbrev cL_law : ByteArray := code
def yL_law : MethodName := ⟨RL, "law", "([I)Z"⟩
abbrev vwCl : List vw_C := [(RX0, TX0, 3), (RX1, TX1, 4), (RX2, TX2, 5), (RX3, TX3, 7), (RX4, TX4, 18), (RX5, TX5, 5), (RX6, TX6, 3), (RX7, TX7, 7), (RX8, TX8, 20)]
end
section
theorem dX0_init_0 : decode cX0_init 0 = .ok (.aload_n 0, 1) := by decide +kernel
theorem dX0_init_1 : decode cX0_init 1 = .ok (.invokespecial 3, 3) := by decide +kernel
theorem dX0_init_4 : decode cX0_init 4 = .ok (.aload_n 0, 1) := by decide +kernel
theorem dX0_init_5 : decode cX0_init 5 = .ok (.sipush 1296, 3) := by decide +kernel
theorem dX0_init_8 : decode cX0_init 8 = .ok (.newarray .int, 2) := by decide +kernel
theorem dX0_init_10 : decode cX0_init 10 = .ok (.putfield 9, 3) := by decide +kernel
theorem dX0_init_13 : decode cX0_init 13 = .ok (.aload_n 0, 1) := by decide +kernel
theorem dX0_init_14 : decode cX0_init 14 = .ok (.sipush 1296, 3) := by decide +kernel
theorem dX0_init_17 : decode cX0_init 17 = .ok (.newarray .int, 2) := by decide +kernel
theorem dX0_init_19 : decode cX0_init 19 = .ok (.putfield 15, 3) := by decide +kernel
theorem dX0_init_22 : decode cX0_init 22 = .ok (.aload_n 0, 1) := by decide +kernel
theorem dX0_init_23 : decode cX0_init 23 = .ok (.bipush 37, 2) := by decide +kernel
theorem dX0_init_25 : decode cX0_init 25 = .ok (.newarray .int, 2) := by decide +kernel
theorem dX0_init_27 : decode cX0_init 27 = .ok (.putfield 18, 3) := by decide +kernel
theorem dX0_init_30 : decode cX0_init 30 = .ok (.return_, 1) := by decide +kernel
theorem dX0_learn_0 : decode cX0_learn 0 = .ok (.aload_n 0, 1) := by decide +kernel
theorem dX0_learn_1 : decode cX0_learn 1 = .ok (.getfield 18, 3) := by decide +kernel
theorem dX0_learn_4 : decode cX0_learn 4 = .ok (.iload_n 2, 1) := by decide +kernel
theorem dX0_learn_5 : decode cX0_learn 5 = .ok (.iaload, 1) := by decide +kernel
theorem dX0_learn_6 : decode cX0_learn 6 = .ok (.aload_n 1, 1) := by decide +kernel
theorem dX0_learn_7 : decode cX0_learn 7 = .ok (.getfield 21, 3) := by decide +kernel
theorem dX0_learn_10 : decode cX0_learn 10 = .ok (.if_icmp .ne 4, 3) := by decide +kernel
theorem dX0_learn_13 : decode cX0_learn 13 = .ok (.return_, 1) := by decide +kernel
theorem dX0_learn_14 : decode cX0_learn 14 = .ok (.iconst 0, 1) := by decide +kernel
theorem dX0_learn_15 : decode cX0_learn 15 = .ok (.istore_n 3, 1) := by decide +kernel
theorem dX0_learn_16 : decode cX0_learn 16 = .ok (.iload_n 3, 1) := by decide +kernel
theorem dX0_learn_17 : decode cX0_learn 17 = .ok (.iload_n 2, 1) := by decide +kernel
theorem dX0_learn_18 : decode cX0_learn 18 = .ok (.iadd, 1) := by decide +kernel
theorem dX0_learn_19 : decode cX0_learn 19 = .ok (.bipush 36, 2) := by decide +kernel
theorem dX0_learn_21 : decode cX0_learn 21 = .ok (.if_icmp .gt 27, 3) := by decide +kernel
theorem dX0_learn_24 : decode cX0_learn 24 = .ok (.aload_n 0, 1) := by decide +kernel
theorem dX0_learn_25 : decode cX0_learn 25 = .ok (.iload_n 3, 1) := by decide +kernel
theorem dX0_learn_26 : decode cX0_learn 26 = .ok (.bipush 36, 2) := by decide +kernel
theorem dX0_learn_28 : decode cX0_learn 28 = .ok (.imul, 1) := by decide +kernel
theorem dX0_learn_29 : decode cX0_learn 29 = .ok (.iload_n 2, 1) := by decide +kernel
theorem dX0_learn_30 : decode cX0_learn 30 = .ok (.iadd, 1) := by decide +kernel
theorem dX0_learn_31 : decode cX0_learn 31 = .ok (.iconst 1, 1) := by decide +kernel
theorem dX0_learn_32 : decode cX0_learn 32 = .ok (.isub, 1) := by decide +kernel
theorem dX0_learn_33 : decode cX0_learn 33 = .ok (.aload_n 1, 1) := by decide +kernel
theorem dX0_learn_34 : decode cX0_learn 34 = .ok (.iload_n 3, 1) := by decide +kernel
theorem dX0_learn_35 : decode cX0_learn 35 = .ok (.iload_n 2, 1) := by decide +kernel
theorem dX0_learn_36 : decode cX0_learn 36 = .ok (.invokevirtual 27, 3) := by decide +kernel
theorem dX0_learn_39 : decode cX0_learn 39 = .ok (.invokevirtual 31, 3) := by decide +kernel
theorem dX0_learn_42 : decode cX0_learn 42 = .ok (.iinc 3 1, 3) := by decide +kernel
theorem dX0_learn_45 : decode cX0_learn 45 = .ok (.goto (-29), 3) := by decide +kernel
theorem dX0_learn_48 : decode cX0_learn 48 = .ok (.aload_n 0, 1) := by decide +kernel
theorem dX0_learn_49 : decode cX0_learn 49 = .ok (.getfield 18, 3) := by decide +kernel
theorem dX0_learn_52 : decode cX0_learn 52 = .ok (.iload_n 2, 1) := by decide +kernel
theorem dX0_learn_53 : decode cX0_learn 53 = .ok (.aload_n 1, 1) := by decide +kernel
theorem dX0_learn_54 : decode cX0_learn 54 = .ok (.getfield 21, 3) := by decide +kernel
theorem dX0_learn_57 : decode cX0_learn 57 = .ok (.iastore, 1) := by decide +kernel
theorem dX0_learn_58 : decode cX0_learn 58 = .ok (.return_, 1) := by decide +kernel
theorem dX0_lengthOf_0 : decode cX0_lengthOf 0 = .ok (.aload_n 0, 1) := by decide +kernel
theorem dX0_lengthOf_1 : decode cX0_lengthOf 1 = .ok (.getfield 9, 3) := by decide +kernel
theorem dX0_lengthOf_4 : decode cX0_lengthOf 4 = .ok (.iload_n 1, 1) := by decide +kernel
theorem dX0_lengthOf_5 : decode cX0_lengthOf 5 = .ok (.bipush 36, 2) := by decide +kernel
theorem dX0_lengthOf_7 : decode cX0_lengthOf 7 = .ok (.imul, 1) := by decide +kernel
theorem dX0_lengthOf_8 : decode cX0_lengthOf 8 = .ok (.iload_n 2, 1) := by decide +kernel
theorem dX0_lengthOf_9 : decode cX0_lengthOf 9 = .ok (.iadd, 1) := by decide +kernel
theorem dX0_lengthOf_10 : decode cX0_lengthOf 10 = .ok (.iconst 1, 1) := by decide +kernel
theorem dX0_lengthOf_11 : decode cX0_lengthOf 11 = .ok (.isub, 1) := by decide +kernel
theorem dX0_lengthOf_12 : decode cX0_lengthOf 12 = .ok (.iaload, 1) := by decide +kernel
theorem dX0_lengthOf_13 : decode cX0_lengthOf 13 = .ok (.ireturn, 1) := by decide +kernel
theorem dX0_firstOf_0 : decode cX0_firstOf 0 = .ok (.aload_n 0, 1) := by decide +kernel
theorem dX0_firstOf_1 : decode cX0_firstOf 1 = .ok (.getfield 15, 3) := by decide +kernel
theorem dX0_firstOf_4 : decode cX0_firstOf 4 = .ok (.iload_n 1, 1) := by decide +kernel
theorem dX0_firstOf_5 : decode cX0_firstOf 5 = .ok (.bipush 36, 2) := by decide +kernel
theorem dX0_firstOf_7 : decode cX0_firstOf 7 = .ok (.imul, 1) := by decide +kernel
theorem dX0_firstOf_8 : decode cX0_firstOf 8 = .ok (.iload_n 2, 1) := by decide +kernel
theorem dX0_firstOf_9 : decode cX0_firstOf 9 = .ok (.iadd, 1) := by decide +kernel
theorem dX0_firstOf_10 : decode cX0_firstOf 10 = .ok (.iconst 1, 1) := by decide +kernel
theorem dX0_firstOf_11 : decode cX0_firstOf 11 = .ok (.isub, 1) := by decide +kernel
theorem dX0_firstOf_12 : decode cX0_firstOf 12 = .ok (.iaload, 1) := by decide +kernel
theorem dX0_firstOf_13 : decode cX0_firstOf 13 = .ok (.ireturn, 1) := by decide +kernel
theorem dX0_findSpan_0 : decode cX0_findSpan 0 = .ok (.iconst 0, 1) := by decide +kernel
theorem dX0_findSpan_1 : decode cX0_findSpan 1 = .ok (.istore 4, 2) := by decide +kernel
theorem dX0_findSpan_3 : decode cX0_findSpan 3 = .ok (.iconst (-1), 1) := by decide +kernel
theorem dX0_findSpan_4 : decode cX0_findSpan 4 = .ok (.istore 5, 2) := by decide +kernel
theorem dX0_findSpan_6 : decode cX0_findSpan 6 = .ok (.iconst 0, 1) := by decide +kernel
theorem dX0_findSpan_7 : decode cX0_findSpan 7 = .ok (.istore 6, 2) := by decide +kernel
theorem dX0_findSpan_9 : decode cX0_findSpan 9 = .ok (.iconst 0, 1) := by decide +kernel
theorem dX0_findSpan_10 : decode cX0_findSpan 10 = .ok (.istore 7, 2) := by decide +kernel
theorem dX0_findSpan_12 : decode cX0_findSpan 12 = .ok (.iload 7, 2) := by decide +kernel
theorem dX0_findSpan_14 : decode cX0_findSpan 14 = .ok (.bipush 48, 2) := by decide +kernel
theorem dX0_findSpan_16 : decode cX0_findSpan 16 = .ok (.if_icmp .ge 50, 3) := by decide +kernel
theorem dX0_findSpan_19 : decode cX0_findSpan 19 = .ok (.lload_n 2, 1) := by decide +kernel
theorem dX0_findSpan_20 : decode cX0_findSpan 20 = .ok (.iload 7, 2) := by decide +kernel
theorem dX0_findSpan_22 : decode cX0_findSpan 22 = .ok (.lshr, 1) := by decide +kernel
theorem dX0_findSpan_23 : decode cX0_findSpan 23 = .ok (.lconst 1, 1) := by decide +kernel
theorem dX0_findSpan_24 : decode cX0_findSpan 24 = .ok (.land, 1) := by decide +kernel
theorem dX0_findSpan_25 : decode cX0_findSpan 25 = .ok (.lconst 0, 1) := by decide +kernel
theorem dX0_findSpan_26 : decode cX0_findSpan 26 = .ok (.lcmp, 1) := by decide +kernel
theorem dX0_findSpan_27 : decode cX0_findSpan 27 = .ok (.ifCond .eq 10, 3) := by decide +kernel
theorem dX0_findSpan_30 : decode cX0_findSpan 30 = .ok (.iload 6, 2) := by decide +kernel
theorem dX0_findSpan_32 : decode cX0_findSpan 32 = .ok (.iconst 1, 1) := by decide +kernel
theorem dX0_findSpan_33 : decode cX0_findSpan 33 = .ok (.iadd, 1) := by decide +kernel
theorem dX0_findSpan_34 : decode cX0_findSpan 34 = .ok (.goto 4, 3) := by decide +kernel
theorem dX0_findSpan_37 : decode cX0_findSpan 37 = .ok (.iconst 0, 1) := by decide +kernel
theorem dX0_findSpan_38 : decode cX0_findSpan 38 = .ok (.istore 6, 2) := by decide +kernel
theorem dX0_findSpan_40 : decode cX0_findSpan 40 = .ok (.iload 6, 2) := by decide +kernel
theorem dX0_findSpan_42 : decode cX0_findSpan 42 = .ok (.iload 4, 2) := by decide +kernel
theorem dX0_findSpan_44 : decode cX0_findSpan 44 = .ok (.if_icmp .le 16, 3) := by decide +kernel
theorem dX0_findSpan_47 : decode cX0_findSpan 47 = .ok (.iload 6, 2) := by decide +kernel
theorem dX0_findSpan_49 : decode cX0_findSpan 49 = .ok (.istore 4, 2) := by decide +kernel
theorem dX0_findSpan_51 : decode cX0_findSpan 51 = .ok (.iload 7, 2) := by decide +kernel
theorem dX0_findSpan_53 : decode cX0_findSpan 53 = .ok (.iload 6, 2) := by decide +kernel
theorem dX0_findSpan_55 : decode cX0_findSpan 55 = .ok (.isub, 1) := by decide +kernel
theorem dX0_findSpan_56 : decode cX0_findSpan 56 = .ok (.iconst 1, 1) := by decide +kernel
theorem dX0_findSpan_57 : decode cX0_findSpan 57 = .ok (.iadd, 1) := by decide +kernel
theorem dX0_findSpan_58 : decode cX0_findSpan 58 = .ok (.istore 5, 2) := by decide +kernel
theorem dX0_findSpan_60 : decode cX0_findSpan 60 = .ok (.iinc 7 1, 3) := by decide +kernel
theorem dX0_findSpan_63 : decode cX0_findSpan 63 = .ok (.goto (-51), 3) := by decide +kernel
theorem dX0_findSpan_66 : decode cX0_findSpan 66 = .ok (.aload_n 0, 1) := by decide +kernel
theorem dX0_findSpan_67 : decode cX0_findSpan 67 = .ok (.getfield 9, 3) := by decide +kernel
theorem dX0_findSpan_70 : decode cX0_findSpan 70 = .ok (.iload_n 1, 1) := by decide +kernel
theorem dX0_findSpan_71 : decode cX0_findSpan 71 = .ok (.iload 4, 2) := by decide +kernel
theorem dX0_findSpan_73 : decode cX0_findSpan 73 = .ok (.iastore, 1) := by decide +kernel
theorem dX0_findSpan_74 : decode cX0_findSpan 74 = .ok (.aload_n 0, 1) := by decide +kernel
theorem dX0_findSpan_75 : decode cX0_findSpan 75 = .ok (.getfield 15, 3) := by decide +kernel
theorem dX0_findSpan_78 : decode cX0_findSpan 78 = .ok (.iload_n 1, 1) := by decide +kernel
theorem dX0_findSpan_79 : decode cX0_findSpan 79 = .ok (.iload 5, 2) := by decide +kernel
theorem dX0_findSpan_81 : decode cX0_findSpan 81 = .ok (.iastore, 1) := by decide +kernel
theorem dX0_findSpan_82 : decode cX0_findSpan 82 = .ok (.return_, 1) := by decide +kernel
theorem dX1_init_0 : decode cX1_init 0 = .ok (.aload_n 0, 1) := by decide +kernel
theorem dX1_init_1 : decode cX1_init 1 = .ok (.invokespecial 3, 3) := by decide +kernel
theorem dX1_init_4 : decode cX1_init 4 = .ok (.aload_n 0, 1) := by decide +kernel
theorem dX1_init_5 : decode cX1_init 5 = .ok (.iconst 0, 1) := by decide +kernel
theorem dX1_init_6 : decode cX1_init 6 = .ok (.putfield 9, 3) := by decide +kernel
theorem dX1_init_9 : decode cX1_init 9 = .ok (.aload_n 0, 1) := by decide +kernel
theorem dX1_init_10 : decode cX1_init 10 = .ok (.iconst 1, 1) := by decide +kernel
theorem dX1_init_11 : decode cX1_init 11 = .ok (.putfield 15, 3) := by decide +kernel
theorem dX1_init_14 : decode cX1_init 14 = .ok (.aload_n 0, 1) := by decide +kernel
theorem dX1_init_15 : decode cX1_init 15 = .ok (.bipush 30, 2) := by decide +kernel
theorem dX1_init_17 : decode cX1_init 17 = .ok (.newarray .int, 2) := by decide +kernel
theorem dX1_init_19 : decode cX1_init 19 = .ok (.putfield 18, 3) := by decide +kernel
theorem dX1_init_22 : decode cX1_init 22 = .ok (.aload_n 0, 1) := by decide +kernel
theorem dX1_init_23 : decode cX1_init 23 = .ok (.bipush 36, 2) := by decide +kernel
theorem dX1_init_25 : decode cX1_init 25 = .ok (.newarray .long, 2) := by decide +kernel
theorem dX1_init_27 : decode cX1_init 27 = .ok (.putfield 22, 3) := by decide +kernel
theorem dX1_init_30 : decode cX1_init 30 = .ok (.return_, 1) := by decide +kernel
theorem dX1_copyFrom_0 : decode cX1_copyFrom 0 = .ok (.aload_n 0, 1) := by decide +kernel
theorem dX1_copyFrom_1 : decode cX1_copyFrom 1 = .ok (.aload_n 1, 1) := by decide +kernel
theorem dX1_copyFrom_2 : decode cX1_copyFrom 2 = .ok (.getfield 9, 3) := by decide +kernel
theorem dX1_copyFrom_5 : decode cX1_copyFrom 5 = .ok (.putfield 9, 3) := by decide +kernel
theorem dX1_copyFrom_8 : decode cX1_copyFrom 8 = .ok (.aload_n 1, 1) := by decide +kernel
theorem dX1_copyFrom_9 : decode cX1_copyFrom 9 = .ok (.getfield 18, 3) := by decide +kernel
theorem dX1_copyFrom_12 : decode cX1_copyFrom 12 = .ok (.iconst 0, 1) := by decide +kernel
theorem dX1_copyFrom_13 : decode cX1_copyFrom 13 = .ok (.aload_n 0, 1) := by decide +kernel
theorem dX1_copyFrom_14 : decode cX1_copyFrom 14 = .ok (.getfield 18, 3) := by decide +kernel
theorem dX1_copyFrom_17 : decode cX1_copyFrom 17 = .ok (.iconst 0, 1) := by decide +kernel
theorem dX1_copyFrom_18 : decode cX1_copyFrom 18 = .ok (.aload_n 0, 1) := by decide +kernel
theorem dX1_copyFrom_19 : decode cX1_copyFrom 19 = .ok (.getfield 18, 3) := by decide +kernel
theorem dX1_copyFrom_22 : decode cX1_copyFrom 22 = .ok (.arraylength, 1) := by decide +kernel
theorem dX1_copyFrom_23 : decode cX1_copyFrom 23 = .ok (.invokestatic 26, 3) := by decide +kernel
theorem dX1_copyFrom_26 : decode cX1_copyFrom 26 = .ok (.aload_n 1, 1) := by decide +kernel
theorem dX1_copyFrom_27 : decode cX1_copyFrom 27 = .ok (.getfield 22, 3) := by decide +kernel
theorem dX1_copyFrom_30 : decode cX1_copyFrom 30 = .ok (.iconst 0, 1) := by decide +kernel
theorem dX1_copyFrom_31 : decode cX1_copyFrom 31 = .ok (.aload_n 0, 1) := by decide +kernel
theorem dX1_copyFrom_32 : decode cX1_copyFrom 32 = .ok (.getfield 22, 3) := by decide +kernel
theorem dX1_copyFrom_35 : decode cX1_copyFrom 35 = .ok (.iconst 0, 1) := by decide +kernel
theorem dX1_copyFrom_36 : decode cX1_copyFrom 36 = .ok (.aload_n 0, 1) := by decide +kernel
theorem dX1_copyFrom_37 : decode cX1_copyFrom 37 = .ok (.getfield 22, 3) := by decide +kernel
theorem dX1_copyFrom_40 : decode cX1_copyFrom 40 = .ok (.arraylength, 1) := by decide +kernel
theorem dX1_copyFrom_41 : decode cX1_copyFrom 41 = .ok (.invokestatic 26, 3) := by decide +kernel
theorem dX1_copyFrom_44 : decode cX1_copyFrom 44 = .ok (.aload_n 0, 1) := by decide +kernel
theorem dX1_copyFrom_45 : decode cX1_copyFrom 45 = .ok (.dup, 1) := by decide +kernel
theorem dX1_copyFrom_46 : decode cX1_copyFrom 46 = .ok (.getfield 15, 3) := by decide +kernel
theorem dX1_copyFrom_49 : decode cX1_copyFrom 49 = .ok (.iconst 1, 1) := by decide +kernel
theorem dX1_copyFrom_50 : decode cX1_copyFrom 50 = .ok (.iadd, 1) := by decide +kernel
theorem dX1_copyFrom_51 : decode cX1_copyFrom 51 = .ok (.putfield 15, 3) := by decide +kernel
theorem dX1_copyFrom_54 : decode cX1_copyFrom 54 = .ok (.return_, 1) := by decide +kernel
theorem dX1_append_0 : decode cX1_append 0 = .ok (.aload_n 0, 1) := by decide +kernel
theorem dX1_append_1 : decode cX1_append 1 = .ok (.getfield 9, 3) := by decide +kernel
theorem dX1_append_4 : decode cX1_append 4 = .ok (.iconst 5, 1) := by decide +kernel
theorem dX1_append_5 : decode cX1_append 5 = .ok (.imul, 1) := by decide +kernel
theorem dX1_append_6 : decode cX1_append 6 = .ok (.istore 6, 2) := by decide +kernel
theorem dX1_append_8 : decode cX1_append 8 = .ok (.aload_n 0, 1) := by decide +kernel
theorem dX1_append_9 : decode cX1_append 9 = .ok (.getfield 18, 3) := by decide +kernel
theorem dX1_append_12 : decode cX1_append 12 = .ok (.iload 6, 2) := by decide +kernel
theorem dX1_append_14 : decode cX1_append 14 = .ok (.iconst 0, 1) := by decide +kernel
theorem dX1_append_15 : decode cX1_append 15 = .ok (.iadd, 1) := by decide +kernel
theorem dX1_append_16 : decode cX1_append 16 = .ok (.iload_n 1, 1) := by decide +kernel
theorem dX1_append_17 : decode cX1_append 17 = .ok (.iastore, 1) := by decide +kernel
theorem dX1_append_18 : decode cX1_append 18 = .ok (.aload_n 0, 1) := by decide +kernel
theorem dX1_append_19 : decode cX1_append 19 = .ok (.getfield 18, 3) := by decide +kernel
theorem dX1_append_22 : decode cX1_append 22 = .ok (.iload 6, 2) := by decide +kernel
theorem dX1_append_24 : decode cX1_append 24 = .ok (.iconst 1, 1) := by decide +kernel
theorem dX1_append_25 : decode cX1_append 25 = .ok (.iadd, 1) := by decide +kernel
theorem dX1_append_26 : decode cX1_append 26 = .ok (.iload_n 2, 1) := by decide +kernel
theorem dX1_append_27 : decode cX1_append 27 = .ok (.iastore, 1) := by decide +kernel
theorem dX1_append_28 : decode cX1_append 28 = .ok (.aload_n 0, 1) := by decide +kernel
theorem dX1_append_29 : decode cX1_append 29 = .ok (.getfield 18, 3) := by decide +kernel
theorem dX1_append_32 : decode cX1_append 32 = .ok (.iload 6, 2) := by decide +kernel
theorem dX1_append_34 : decode cX1_append 34 = .ok (.iconst 2, 1) := by decide +kernel
theorem dX1_append_35 : decode cX1_append 35 = .ok (.iadd, 1) := by decide +kernel
theorem dX1_append_36 : decode cX1_append 36 = .ok (.iload_n 3, 1) := by decide +kernel
theorem dX1_append_37 : decode cX1_append 37 = .ok (.iastore, 1) := by decide +kernel
theorem dX1_append_38 : decode cX1_append 38 = .ok (.aload_n 0, 1) := by decide +kernel
theorem dX1_append_39 : decode cX1_append 39 = .ok (.getfield 18, 3) := by decide +kernel
theorem dX1_append_42 : decode cX1_append 42 = .ok (.iload 6, 2) := by decide +kernel
theorem dX1_append_44 : decode cX1_append 44 = .ok (.iconst 3, 1) := by decide +kernel
theorem dX1_append_45 : decode cX1_append 45 = .ok (.iadd, 1) := by decide +kernel
theorem dX1_append_46 : decode cX1_append 46 = .ok (.iload 4, 2) := by decide +kernel
theorem dX1_append_48 : decode cX1_append 48 = .ok (.iastore, 1) := by decide +kernel
theorem dX1_append_49 : decode cX1_append 49 = .ok (.aload_n 0, 1) := by decide +kernel
theorem dX1_append_50 : decode cX1_append 50 = .ok (.getfield 18, 3) := by decide +kernel
theorem dX1_append_53 : decode cX1_append 53 = .ok (.iload 6, 2) := by decide +kernel
theorem dX1_append_55 : decode cX1_append 55 = .ok (.iconst 4, 1) := by decide +kernel
theorem dX1_append_56 : decode cX1_append 56 = .ok (.iadd, 1) := by decide +kernel
theorem dX1_append_57 : decode cX1_append 57 = .ok (.iload 5, 2) := by decide +kernel
theorem dX1_append_59 : decode cX1_append 59 = .ok (.iastore, 1) := by decide +kernel
theorem dX1_append_60 : decode cX1_append 60 = .ok (.aload_n 0, 1) := by decide +kernel
theorem dX1_append_61 : decode cX1_append 61 = .ok (.dup, 1) := by decide +kernel
theorem dX1_append_62 : decode cX1_append 62 = .ok (.getfield 9, 3) := by decide +kernel
theorem dX1_append_65 : decode cX1_append 65 = .ok (.iconst 1, 1) := by decide +kernel
theorem dX1_append_66 : decode cX1_append 66 = .ok (.iadd, 1) := by decide +kernel
theorem dX1_append_67 : decode cX1_append 67 = .ok (.putfield 9, 3) := by decide +kernel
theorem dX1_append_70 : decode cX1_append 70 = .ok (.aload_n 0, 1) := by decide +kernel
theorem dX1_append_71 : decode cX1_append 71 = .ok (.iload 6, 2) := by decide +kernel
theorem dX1_append_73 : decode cX1_append 73 = .ok (.invokevirtual 32, 3) := by decide +kernel
theorem dX1_append_76 : decode cX1_append 76 = .ok (.return_, 1) := by decide +kernel
theorem dX1_canShift_0 : decode cX1_canShift 0 = .ok (.iload_n 1, 1) := by decide +kernel
theorem dX1_canShift_1 : decode cX1_canShift 1 = .ok (.iconst 5, 1) := by decide +kernel
theorem dX1_canShift_2 : decode cX1_canShift 2 = .ok (.imul, 1) := by decide +kernel
theorem dX1_canShift_3 : decode cX1_canShift 3 = .ok (.istore 4, 2) := by decide +kernel
theorem dX1_canShift_5 : decode cX1_canShift 5 = .ok (.aload_n 0, 1) := by decide +kernel
theorem dX1_canShift_6 : decode cX1_canShift 6 = .ok (.getfield 18, 3) := by decide +kernel
theorem dX1_canShift_9 : decode cX1_canShift 9 = .ok (.iload 4, 2) := by decide +kernel
theorem dX1_canShift_11 : decode cX1_canShift 11 = .ok (.iconst 1, 1) := by decide +kernel
theorem dX1_canShift_12 : decode cX1_canShift 12 = .ok (.iadd, 1) := by decide +kernel
theorem dX1_canShift_13 : decode cX1_canShift 13 = .ok (.iaload, 1) := by decide +kernel
theorem dX1_canShift_14 : decode cX1_canShift 14 = .ok (.iload_n 2, 1) := by decide +kernel
theorem dX1_canShift_15 : decode cX1_canShift 15 = .ok (.iadd, 1) := by decide +kernel
theorem dX1_canShift_16 : decode cX1_canShift 16 = .ok (.aload_n 0, 1) := by decide +kernel
theorem dX1_canShift_17 : decode cX1_canShift 17 = .ok (.getfield 18, 3) := by decide +kernel
theorem dX1_canShift_20 : decode cX1_canShift 20 = .ok (.iload 4, 2) := by decide +kernel
theorem dX1_canShift_22 : decode cX1_canShift 22 = .ok (.iconst 2, 1) := by decide +kernel
theorem dX1_canShift_23 : decode cX1_canShift 23 = .ok (.iadd, 1) := by decide +kernel
theorem dX1_canShift_24 : decode cX1_canShift 24 = .ok (.iaload, 1) := by decide +kernel
theorem dX1_canShift_25 : decode cX1_canShift 25 = .ok (.iload_n 3, 1) := by decide +kernel
theorem dX1_canShift_26 : decode cX1_canShift 26 = .ok (.iadd, 1) := by decide +kernel
theorem dX1_canShift_27 : decode cX1_canShift 27 = .ok (.aload_n 0, 1) := by decide +kernel
theorem dX1_canShift_28 : decode cX1_canShift 28 = .ok (.getfield 18, 3) := by decide +kernel
theorem dX1_canShift_31 : decode cX1_canShift 31 = .ok (.iload 4, 2) := by decide +kernel
theorem dX1_canShift_33 : decode cX1_canShift 33 = .ok (.iconst 3, 1) := by decide +kernel
theorem dX1_canShift_34 : decode cX1_canShift 34 = .ok (.iadd, 1) := by decide +kernel
theorem dX1_canShift_35 : decode cX1_canShift 35 = .ok (.iaload, 1) := by decide +kernel
theorem dX1_canShift_36 : decode cX1_canShift 36 = .ok (.iload_n 2, 1) := by decide +kernel
theorem dX1_canShift_37 : decode cX1_canShift 37 = .ok (.iadd, 1) := by decide +kernel
theorem dX1_canShift_38 : decode cX1_canShift 38 = .ok (.aload_n 0, 1) := by decide +kernel
theorem dX1_canShift_39 : decode cX1_canShift 39 = .ok (.getfield 18, 3) := by decide +kernel
theorem dX1_canShift_42 : decode cX1_canShift 42 = .ok (.iload 4, 2) := by decide +kernel
theorem dX1_canShift_44 : decode cX1_canShift 44 = .ok (.iconst 4, 1) := by decide +kernel
theorem dX1_canShift_45 : decode cX1_canShift 45 = .ok (.iadd, 1) := by decide +kernel
theorem dX1_canShift_46 : decode cX1_canShift 46 = .ok (.iaload, 1) := by decide +kernel
theorem dX1_canShift_47 : decode cX1_canShift 47 = .ok (.iload_n 3, 1) := by decide +kernel
theorem dX1_canShift_48 : decode cX1_canShift 48 = .ok (.iadd, 1) := by decide +kernel
theorem dX1_canShift_49 : decode cX1_canShift 49 = .ok (.invokestatic 36, 3) := by decide +kernel
theorem dX1_canShift_52 : decode cX1_canShift 52 = .ok (.ireturn, 1) := by decide +kernel
theorem dX1_shift_0 : decode cX1_shift 0 = .ok (.iload_n 1, 1) := by decide +kernel
theorem dX1_shift_1 : decode cX1_shift 1 = .ok (.iconst 5, 1) := by decide +kernel
theorem dX1_shift_2 : decode cX1_shift 2 = .ok (.imul, 1) := by decide +kernel
theorem dX1_shift_3 : decode cX1_shift 3 = .ok (.istore 4, 2) := by decide +kernel
theorem dX1_shift_5 : decode cX1_shift 5 = .ok (.aload_n 0, 1) := by decide +kernel
theorem dX1_shift_6 : decode cX1_shift 6 = .ok (.iload 4, 2) := by decide +kernel
theorem dX1_shift_8 : decode cX1_shift 8 = .ok (.invokevirtual 32, 3) := by decide +kernel
theorem dX1_shift_11 : decode cX1_shift 11 = .ok (.aload_n 0, 1) := by decide +kernel
theorem dX1_shift_12 : decode cX1_shift 12 = .ok (.getfield 18, 3) := by decide +kernel
theorem dX1_shift_15 : decode cX1_shift 15 = .ok (.iload 4, 2) := by decide +kernel
theorem dX1_shift_17 : decode cX1_shift 17 = .ok (.iconst 1, 1) := by decide +kernel
theorem dX1_shift_18 : decode cX1_shift 18 = .ok (.iadd, 1) := by decide +kernel
theorem dX1_shift_19 : decode cX1_shift 19 = .ok (.dup2, 1) := by decide +kernel
theorem dX1_shift_20 : decode cX1_shift 20 = .ok (.iaload, 1) := by decide +kernel
theorem dX1_shift_21 : decode cX1_shift 21 = .ok (.iload_n 2, 1) := by decide +kernel
theorem dX1_shift_22 : decode cX1_shift 22 = .ok (.iadd, 1) := by decide +kernel
theorem dX1_shift_23 : decode cX1_shift 23 = .ok (.iastore, 1) := by decide +kernel
theorem dX1_shift_24 : decode cX1_shift 24 = .ok (.aload_n 0, 1) := by decide +kernel
theorem dX1_shift_25 : decode cX1_shift 25 = .ok (.getfield 18, 3) := by decide +kernel
theorem dX1_shift_28 : decode cX1_shift 28 = .ok (.iload 4, 2) := by decide +kernel
theorem dX1_shift_30 : decode cX1_shift 30 = .ok (.iconst 2, 1) := by decide +kernel
theorem dX1_shift_31 : decode cX1_shift 31 = .ok (.iadd, 1) := by decide +kernel
theorem dX1_shift_32 : decode cX1_shift 32 = .ok (.dup2, 1) := by decide +kernel
theorem dX1_shift_33 : decode cX1_shift 33 = .ok (.iaload, 1) := by decide +kernel
theorem dX1_shift_34 : decode cX1_shift 34 = .ok (.iload_n 3, 1) := by decide +kernel
theorem dX1_shift_35 : decode cX1_shift 35 = .ok (.iadd, 1) := by decide +kernel
theorem dX1_shift_36 : decode cX1_shift 36 = .ok (.iastore, 1) := by decide +kernel
theorem dX1_shift_37 : decode cX1_shift 37 = .ok (.aload_n 0, 1) := by decide +kernel
theorem dX1_shift_38 : decode cX1_shift 38 = .ok (.getfield 18, 3) := by decide +kernel
theorem dX1_shift_41 : decode cX1_shift 41 = .ok (.iload 4, 2) := by decide +kernel
theorem dX1_shift_43 : decode cX1_shift 43 = .ok (.iconst 3, 1) := by decide +kernel
theorem dX1_shift_44 : decode cX1_shift 44 = .ok (.iadd, 1) := by decide +kernel
theorem dX1_shift_45 : decode cX1_shift 45 = .ok (.dup2, 1) := by decide +kernel
theorem dX1_shift_46 : decode cX1_shift 46 = .ok (.iaload, 1) := by decide +kernel
theorem dX1_shift_47 : decode cX1_shift 47 = .ok (.iload_n 2, 1) := by decide +kernel
theorem dX1_shift_48 : decode cX1_shift 48 = .ok (.iadd, 1) := by decide +kernel
theorem dX1_shift_49 : decode cX1_shift 49 = .ok (.iastore, 1) := by decide +kernel
theorem dX1_shift_50 : decode cX1_shift 50 = .ok (.aload_n 0, 1) := by decide +kernel
theorem dX1_shift_51 : decode cX1_shift 51 = .ok (.getfield 18, 3) := by decide +kernel
theorem dX1_shift_54 : decode cX1_shift 54 = .ok (.iload 4, 2) := by decide +kernel
theorem dX1_shift_56 : decode cX1_shift 56 = .ok (.iconst 4, 1) := by decide +kernel
theorem dX1_shift_57 : decode cX1_shift 57 = .ok (.iadd, 1) := by decide +kernel
theorem dX1_shift_58 : decode cX1_shift 58 = .ok (.dup2, 1) := by decide +kernel
theorem dX1_shift_59 : decode cX1_shift 59 = .ok (.iaload, 1) := by decide +kernel
theorem dX1_shift_60 : decode cX1_shift 60 = .ok (.iload_n 3, 1) := by decide +kernel
theorem dX1_shift_61 : decode cX1_shift 61 = .ok (.iadd, 1) := by decide +kernel
theorem dX1_shift_62 : decode cX1_shift 62 = .ok (.iastore, 1) := by decide +kernel
theorem dX1_shift_63 : decode cX1_shift 63 = .ok (.aload_n 0, 1) := by decide +kernel
theorem dX1_shift_64 : decode cX1_shift 64 = .ok (.iload 4, 2) := by decide +kernel
theorem dX1_shift_66 : decode cX1_shift 66 = .ok (.invokevirtual 32, 3) := by decide +kernel
theorem dX1_shift_69 : decode cX1_shift 69 = .ok (.return_, 1) := by decide +kernel
theorem dX1_drop_0 : decode cX1_drop 0 = .ok (.iload_n 1, 1) := by decide +kernel
theorem dX1_drop_1 : decode cX1_drop 1 = .ok (.iconst 5, 1) := by decide +kernel
theorem dX1_drop_2 : decode cX1_drop 2 = .ok (.imul, 1) := by decide +kernel
theorem dX1_drop_3 : decode cX1_drop 3 = .ok (.istore_n 2, 1) := by decide +kernel
theorem dX1_drop_4 : decode cX1_drop 4 = .ok (.aload_n 0, 1) := by decide +kernel
theorem dX1_drop_5 : decode cX1_drop 5 = .ok (.iload_n 2, 1) := by decide +kernel
theorem dX1_drop_6 : decode cX1_drop 6 = .ok (.invokevirtual 32, 3) := by decide +kernel
theorem dX1_drop_9 : decode cX1_drop 9 = .ok (.aload_n 0, 1) := by decide +kernel
theorem dX1_drop_10 : decode cX1_drop 10 = .ok (.dup, 1) := by decide +kernel
theorem dX1_drop_11 : decode cX1_drop 11 = .ok (.getfield 9, 3) := by decide +kernel
theorem dX1_drop_14 : decode cX1_drop 14 = .ok (.iconst 1, 1) := by decide +kernel
theorem dX1_drop_15 : decode cX1_drop 15 = .ok (.isub, 1) := by decide +kernel
theorem dX1_drop_16 : decode cX1_drop 16 = .ok (.putfield 9, 3) := by decide +kernel
theorem dX1_drop_19 : decode cX1_drop 19 = .ok (.aload_n 0, 1) := by decide +kernel
theorem dX1_drop_20 : decode cX1_drop 20 = .ok (.getfield 18, 3) := by decide +kernel
theorem dX1_drop_23 : decode cX1_drop 23 = .ok (.iload_n 2, 1) := by decide +kernel
theorem dX1_drop_24 : decode cX1_drop 24 = .ok (.iconst 5, 1) := by decide +kernel
theorem dX1_drop_25 : decode cX1_drop 25 = .ok (.iadd, 1) := by decide +kernel
theorem dX1_drop_26 : decode cX1_drop 26 = .ok (.aload_n 0, 1) := by decide +kernel
theorem dX1_drop_27 : decode cX1_drop 27 = .ok (.getfield 18, 3) := by decide +kernel
theorem dX1_drop_30 : decode cX1_drop 30 = .ok (.iload_n 2, 1) := by decide +kernel
theorem dX1_drop_31 : decode cX1_drop 31 = .ok (.aload_n 0, 1) := by decide +kernel
theorem dX1_drop_32 : decode cX1_drop 32 = .ok (.getfield 9, 3) := by decide +kernel
theorem dX1_drop_35 : decode cX1_drop 35 = .ok (.iconst 5, 1) := by decide +kernel
theorem dX1_drop_36 : decode cX1_drop 36 = .ok (.imul, 1) := by decide +kernel
theorem dX1_drop_37 : decode cX1_drop 37 = .ok (.iload_n 2, 1) := by decide +kernel
theorem dX1_drop_38 : decode cX1_drop 38 = .ok (.isub, 1) := by decide +kernel
theorem dX1_drop_39 : decode cX1_drop 39 = .ok (.invokestatic 26, 3) := by decide +kernel
theorem dX1_drop_42 : decode cX1_drop 42 = .ok (.return_, 1) := by decide +kernel
theorem dX1_isFreeAt_0 : decode cX1_isFreeAt 0 = .ok (.aload_n 0, 1) := by decide +kernel
theorem dX1_isFreeAt_1 : decode cX1_isFreeAt 1 = .ok (.getfield 22, 3) := by decide +kernel
theorem dX1_isFreeAt_4 : decode cX1_isFreeAt 4 = .ok (.iload_n 2, 1) := by decide +kernel
theorem dX1_isFreeAt_5 : decode cX1_isFreeAt 5 = .ok (.laload, 1) := by decide +kernel
theorem dX1_isFreeAt_6 : decode cX1_isFreeAt 6 = .ok (.iload_n 1, 1) := by decide +kernel
theorem dX1_isFreeAt_7 : decode cX1_isFreeAt 7 = .ok (.lshr, 1) := by decide +kernel
theorem dX1_isFreeAt_8 : decode cX1_isFreeAt 8 = .ok (.lconst 1, 1) := by decide +kernel
theorem dX1_isFreeAt_9 : decode cX1_isFreeAt 9 = .ok (.land, 1) := by decide +kernel
theorem dX1_isFreeAt_10 : decode cX1_isFreeAt 10 = .ok (.lconst 0, 1) := by decide +kernel
theorem dX1_isFreeAt_11 : decode cX1_isFreeAt 11 = .ok (.lcmp, 1) := by decide +kernel
theorem dX1_isFreeAt_12 : decode cX1_isFreeAt 12 = .ok (.ifCond .eq 7, 3) := by decide +kernel
theorem dX1_isFreeAt_15 : decode cX1_isFreeAt 15 = .ok (.iconst 1, 1) := by decide +kernel
theorem dX1_isFreeAt_16 : decode cX1_isFreeAt 16 = .ok (.goto 4, 3) := by decide +kernel
theorem dX1_isFreeAt_19 : decode cX1_isFreeAt 19 = .ok (.iconst 0, 1) := by decide +kernel
theorem dX1_isFreeAt_20 : decode cX1_isFreeAt 20 = .ok (.ireturn, 1) := by decide +kernel
theorem dX1_freeCells_0 : decode cX1_freeCells 0 = .ok (.iconst 0, 1) := by decide +kernel
theorem dX1_freeCells_1 : decode cX1_freeCells 1 = .ok (.istore_n 1, 1) := by decide +kernel
theorem dX1_freeCells_2 : decode cX1_freeCells 2 = .ok (.iconst 0, 1) := by decide +kernel
theorem dX1_freeCells_3 : decode cX1_freeCells 3 = .ok (.istore_n 2, 1) := by decide +kernel
theorem dX1_freeCells_4 : decode cX1_freeCells 4 = .ok (.iload_n 2, 1) := by decide +kernel
theorem dX1_freeCells_5 : decode cX1_freeCells 5 = .ok (.bipush 36, 2) := by decide +kernel
theorem dX1_freeCells_7 : decode cX1_freeCells 7 = .ok (.if_icmp .ge 21, 3) := by decide +kernel
theorem dX1_freeCells_10 : decode cX1_freeCells 10 = .ok (.iload_n 1, 1) := by decide +kernel
theorem dX1_freeCells_11 : decode cX1_freeCells 11 = .ok (.aload_n 0, 1) := by decide +kernel
theorem dX1_freeCells_12 : decode cX1_freeCells 12 = .ok (.getfield 22, 3) := by decide +kernel
theorem dX1_freeCells_15 : decode cX1_freeCells 15 = .ok (.iload_n 2, 1) := by decide +kernel
theorem dX1_freeCells_16 : decode cX1_freeCells 16 = .ok (.laload, 1) := by decide +kernel
theorem dX1_freeCells_17 : decode cX1_freeCells 17 = .ok (.invokestatic 40, 3) := by decide +kernel
theorem dX1_freeCells_20 : decode cX1_freeCells 20 = .ok (.iadd, 1) := by decide +kernel
theorem dX1_freeCells_21 : decode cX1_freeCells 21 = .ok (.istore_n 1, 1) := by decide +kernel
theorem dX1_freeCells_22 : decode cX1_freeCells 22 = .ok (.iinc 2 1, 3) := by decide +kernel
theorem dX1_freeCells_25 : decode cX1_freeCells 25 = .ok (.goto (-21), 3) := by decide +kernel
theorem dX1_freeCells_28 : decode cX1_freeCells 28 = .ok (.iload_n 1, 1) := by decide +kernel
theorem dX1_freeCells_29 : decode cX1_freeCells 29 = .ok (.ireturn, 1) := by decide +kernel
theorem dX1_freeColumns_0 : decode cX1_freeColumns 0 = .ok (.aload_n 0, 1) := by decide +kernel
theorem dX1_freeColumns_1 : decode cX1_freeColumns 1 = .ok (.getfield 22, 3) := by decide +kernel
theorem dX1_freeColumns_4 : decode cX1_freeColumns 4 = .ok (.iload_n 1, 1) := by decide +kernel
theorem dX1_freeColumns_5 : decode cX1_freeColumns 5 = .ok (.laload, 1) := by decide +kernel
theorem dX1_freeColumns_6 : decode cX1_freeColumns 6 = .ok (.lstore_n 3, 1) := by decide +kernel
theorem dX1_freeColumns_7 : decode cX1_freeColumns 7 = .ok (.iload_n 1, 1) := by decide +kernel
theorem dX1_freeColumns_8 : decode cX1_freeColumns 8 = .ok (.iconst 1, 1) := by decide +kernel
theorem dX1_freeColumns_9 : decode cX1_freeColumns 9 = .ok (.iadd, 1) := by decide +kernel
theorem dX1_freeColumns_10 : decode cX1_freeColumns 10 = .ok (.istore 5, 2) := by decide +kernel
theorem dX1_freeColumns_12 : decode cX1_freeColumns 12 = .ok (.iload 5, 2) := by decide +kernel
theorem dX1_freeColumns_14 : decode cX1_freeColumns 14 = .ok (.iload_n 1, 1) := by decide +kernel
theorem dX1_freeColumns_15 : decode cX1_freeColumns 15 = .ok (.iload_n 2, 1) := by decide +kernel
theorem dX1_freeColumns_16 : decode cX1_freeColumns 16 = .ok (.iadd, 1) := by decide +kernel
theorem dX1_freeColumns_17 : decode cX1_freeColumns 17 = .ok (.if_icmp .ge 19, 3) := by decide +kernel
theorem dX1_freeColumns_20 : decode cX1_freeColumns 20 = .ok (.lload_n 3, 1) := by decide +kernel
theorem dX1_freeColumns_21 : decode cX1_freeColumns 21 = .ok (.aload_n 0, 1) := by decide +kernel
theorem dX1_freeColumns_22 : decode cX1_freeColumns 22 = .ok (.getfield 22, 3) := by decide +kernel
theorem dX1_freeColumns_25 : decode cX1_freeColumns 25 = .ok (.iload 5, 2) := by decide +kernel
theorem dX1_freeColumns_27 : decode cX1_freeColumns 27 = .ok (.laload, 1) := by decide +kernel
theorem dX1_freeColumns_28 : decode cX1_freeColumns 28 = .ok (.land, 1) := by decide +kernel
theorem dX1_freeColumns_29 : decode cX1_freeColumns 29 = .ok (.lstore_n 3, 1) := by decide +kernel
theorem dX1_freeColumns_30 : decode cX1_freeColumns 30 = .ok (.iinc 5 1, 3) := by decide +kernel
theorem dX1_freeColumns_33 : decode cX1_freeColumns 33 = .ok (.goto (-21), 3) := by decide +kernel
theorem dX1_freeColumns_36 : decode cX1_freeColumns 36 = .ok (.lload_n 3, 1) := by decide +kernel
theorem dX1_freeColumns_37 : decode cX1_freeColumns 37 = .ok (.lreturn, 1) := by decide +kernel
theorem dX1_toggle_0 : decode cX1_toggle 0 = .ok (.aload_n 0, 1) := by decide +kernel
theorem dX1_toggle_1 : decode cX1_toggle 1 = .ok (.getfield 18, 3) := by decide +kernel
theorem dX1_toggle_4 : decode cX1_toggle 4 = .ok (.iload_n 1, 1) := by decide +kernel
theorem dX1_toggle_5 : decode cX1_toggle 5 = .ok (.iconst 2, 1) := by decide +kernel
theorem dX1_toggle_6 : decode cX1_toggle 6 = .ok (.iadd, 1) := by decide +kernel
theorem dX1_toggle_7 : decode cX1_toggle 7 = .ok (.iaload, 1) := by decide +kernel
theorem dX1_toggle_8 : decode cX1_toggle 8 = .ok (.istore_n 2, 1) := by decide +kernel
theorem dX1_toggle_9 : decode cX1_toggle 9 = .ok (.iload_n 2, 1) := by decide +kernel
theorem dX1_toggle_10 : decode cX1_toggle 10 = .ok (.aload_n 0, 1) := by decide +kernel
theorem dX1_toggle_11 : decode cX1_toggle 11 = .ok (.getfield 18, 3) := by decide +kernel
theorem dX1_toggle_14 : decode cX1_toggle 14 = .ok (.iload_n 1, 1) := by decide +kernel
theorem dX1_toggle_15 : decode cX1_toggle 15 = .ok (.iconst 4, 1) := by decide +kernel
theorem dX1_toggle_16 : decode cX1_toggle 16 = .ok (.iadd, 1) := by decide +kernel
theorem dX1_toggle_17 : decode cX1_toggle 17 = .ok (.iaload, 1) := by decide +kernel
theorem dX1_toggle_18 : decode cX1_toggle 18 = .ok (.if_icmp .gt 24, 3) := by decide +kernel
theorem dX1_toggle_21 : decode cX1_toggle 21 = .ok (.aload_n 0, 1) := by decide +kernel
theorem dX1_toggle_22 : decode cX1_toggle 22 = .ok (.getfield 22, 3) := by decide +kernel
theorem dX1_toggle_25 : decode cX1_toggle 25 = .ok (.iload_n 2, 1) := by decide +kernel
theorem dX1_toggle_26 : decode cX1_toggle 26 = .ok (.dup2, 1) := by decide +kernel
theorem dX1_toggle_27 : decode cX1_toggle 27 = .ok (.laload, 1) := by decide +kernel
theorem dX1_toggle_28 : decode cX1_toggle 28 = .ok (.aload_n 0, 1) := by decide +kernel
theorem dX1_toggle_29 : decode cX1_toggle 29 = .ok (.iload_n 1, 1) := by decide +kernel
theorem dX1_toggle_30 : decode cX1_toggle 30 = .ok (.iload_n 2, 1) := by decide +kernel
theorem dX1_toggle_31 : decode cX1_toggle 31 = .ok (.invokevirtual 46, 3) := by decide +kernel
theorem dX1_toggle_34 : decode cX1_toggle 34 = .ok (.lxor, 1) := by decide +kernel
theorem dX1_toggle_35 : decode cX1_toggle 35 = .ok (.lastore, 1) := by decide +kernel
theorem dX1_toggle_36 : decode cX1_toggle 36 = .ok (.iinc 2 1, 3) := by decide +kernel
theorem dX1_toggle_39 : decode cX1_toggle 39 = .ok (.goto (-30), 3) := by decide +kernel
theorem dX1_toggle_42 : decode cX1_toggle 42 = .ok (.aload_n 0, 1) := by decide +kernel
theorem dX1_toggle_43 : decode cX1_toggle 43 = .ok (.dup, 1) := by decide +kernel
theorem dX1_toggle_44 : decode cX1_toggle 44 = .ok (.getfield 15, 3) := by decide +kernel
theorem dX1_toggle_47 : decode cX1_toggle 47 = .ok (.iconst 1, 1) := by decide +kernel
theorem dX1_toggle_48 : decode cX1_toggle 48 = .ok (.iadd, 1) := by decide +kernel
theorem dX1_toggle_49 : decode cX1_toggle 49 = .ok (.putfield 15, 3) := by decide +kernel
theorem dX1_toggle_52 : decode cX1_toggle 52 = .ok (.return_, 1) := by decide +kernel
theorem dX1_columnsOf_0 : decode cX1_columnsOf 0 = .ok (.aload_n 0, 1) := by decide +kernel
theorem dX1_columnsOf_1 : decode cX1_columnsOf 1 = .ok (.getfield 18, 3) := by decide +kernel
theorem dX1_columnsOf_4 : decode cX1_columnsOf 4 = .ok (.iload_n 1, 1) := by decide +kernel
theorem dX1_columnsOf_5 : decode cX1_columnsOf 5 = .ok (.iconst 1, 1) := by decide +kernel
theorem dX1_columnsOf_6 : decode cX1_columnsOf 6 = .ok (.iadd, 1) := by decide +kernel
theorem dX1_columnsOf_7 : decode cX1_columnsOf 7 = .ok (.iaload, 1) := by decide +kernel
theorem dX1_columnsOf_8 : decode cX1_columnsOf 8 = .ok (.istore_n 3, 1) := by decide +kernel
theorem dX1_columnsOf_9 : decode cX1_columnsOf 9 = .ok (.aload_n 0, 1) := by decide +kernel
theorem dX1_columnsOf_10 : decode cX1_columnsOf 10 = .ok (.getfield 18, 3) := by decide +kernel
theorem dX1_columnsOf_13 : decode cX1_columnsOf 13 = .ok (.iload_n 1, 1) := by decide +kernel
theorem dX1_columnsOf_14 : decode cX1_columnsOf 14 = .ok (.iconst 3, 1) := by decide +kernel
theorem dX1_columnsOf_15 : decode cX1_columnsOf 15 = .ok (.iadd, 1) := by decide +kernel
theorem dX1_columnsOf_16 : decode cX1_columnsOf 16 = .ok (.iaload, 1) := by decide +kernel
theorem dX1_columnsOf_17 : decode cX1_columnsOf 17 = .ok (.istore 4, 2) := by decide +kernel
theorem dX1_columnsOf_19 : decode cX1_columnsOf 19 = .ok (.aload_n 0, 1) := by decide +kernel
theorem dX1_columnsOf_20 : decode cX1_columnsOf 20 = .ok (.getfield 18, 3) := by decide +kernel
theorem dX1_columnsOf_23 : decode cX1_columnsOf 23 = .ok (.iload_n 1, 1) := by decide +kernel
theorem dX1_columnsOf_24 : decode cX1_columnsOf 24 = .ok (.iconst 2, 1) := by decide +kernel
theorem dX1_columnsOf_25 : decode cX1_columnsOf 25 = .ok (.iadd, 1) := by decide +kernel
theorem dX1_columnsOf_26 : decode cX1_columnsOf 26 = .ok (.iaload, 1) := by decide +kernel
theorem dX1_columnsOf_27 : decode cX1_columnsOf 27 = .ok (.istore 5, 2) := by decide +kernel
theorem dX1_columnsOf_29 : decode cX1_columnsOf 29 = .ok (.aload_n 0, 1) := by decide +kernel
theorem dX1_columnsOf_30 : decode cX1_columnsOf 30 = .ok (.getfield 18, 3) := by decide +kernel
theorem dX1_columnsOf_33 : decode cX1_columnsOf 33 = .ok (.iload_n 1, 1) := by decide +kernel
theorem dX1_columnsOf_34 : decode cX1_columnsOf 34 = .ok (.iconst 4, 1) := by decide +kernel
theorem dX1_columnsOf_35 : decode cX1_columnsOf 35 = .ok (.iadd, 1) := by decide +kernel
theorem dX1_columnsOf_36 : decode cX1_columnsOf 36 = .ok (.iaload, 1) := by decide +kernel
theorem dX1_columnsOf_37 : decode cX1_columnsOf 37 = .ok (.istore 6, 2) := by decide +kernel
theorem dX1_columnsOf_39 : decode cX1_columnsOf 39 = .ok (.lconst 0, 1) := by decide +kernel
theorem dX1_columnsOf_40 : decode cX1_columnsOf 40 = .ok (.lstore 7, 2) := by decide +kernel
theorem dX1_columnsOf_42 : decode cX1_columnsOf 42 = .ok (.iload_n 3, 1) := by decide +kernel
theorem dX1_columnsOf_43 : decode cX1_columnsOf 43 = .ok (.istore 9, 2) := by decide +kernel
theorem dX1_columnsOf_45 : decode cX1_columnsOf 45 = .ok (.iload 9, 2) := by decide +kernel
theorem dX1_columnsOf_47 : decode cX1_columnsOf 47 = .ok (.iload 4, 2) := by decide +kernel
theorem dX1_columnsOf_49 : decode cX1_columnsOf 49 = .ok (.if_icmp .gt 83, 3) := by decide +kernel
theorem dX1_columnsOf_52 : decode cX1_columnsOf 52 = .ok (.iconst 2, 1) := by decide +kernel
theorem dX1_columnsOf_53 : decode cX1_columnsOf 53 = .ok (.iload 9, 2) := by decide +kernel
theorem dX1_columnsOf_55 : decode cX1_columnsOf 55 = .ok (.imul, 1) := by decide +kernel
theorem dX1_columnsOf_56 : decode cX1_columnsOf 56 = .ok (.iload_n 3, 1) := by decide +kernel
theorem dX1_columnsOf_57 : decode cX1_columnsOf 57 = .ok (.isub, 1) := by decide +kernel
theorem dX1_columnsOf_58 : decode cX1_columnsOf 58 = .ok (.iload 4, 2) := by decide +kernel
theorem dX1_columnsOf_60 : decode cX1_columnsOf 60 = .ok (.isub, 1) := by decide +kernel
theorem dX1_columnsOf_61 : decode cX1_columnsOf 61 = .ok (.invokestatic 50, 3) := by decide +kernel
theorem dX1_columnsOf_64 : decode cX1_columnsOf 64 = .ok (.istore 10, 2) := by decide +kernel
theorem dX1_columnsOf_66 : decode cX1_columnsOf 66 = .ok (.iconst 2, 1) := by decide +kernel
theorem dX1_columnsOf_67 : decode cX1_columnsOf 67 = .ok (.iload_n 2, 1) := by decide +kernel
theorem dX1_columnsOf_68 : decode cX1_columnsOf 68 = .ok (.imul, 1) := by decide +kernel
theorem dX1_columnsOf_69 : decode cX1_columnsOf 69 = .ok (.iload 5, 2) := by decide +kernel
theorem dX1_columnsOf_71 : decode cX1_columnsOf 71 = .ok (.isub, 1) := by decide +kernel
theorem dX1_columnsOf_72 : decode cX1_columnsOf 72 = .ok (.iload 6, 2) := by decide +kernel
theorem dX1_columnsOf_74 : decode cX1_columnsOf 74 = .ok (.isub, 1) := by decide +kernel
theorem dX1_columnsOf_75 : decode cX1_columnsOf 75 = .ok (.invokestatic 50, 3) := by decide +kernel
theorem dX1_columnsOf_78 : decode cX1_columnsOf 78 = .ok (.istore 11, 2) := by decide +kernel
theorem dX1_columnsOf_80 : decode cX1_columnsOf 80 = .ok (.aload_n 0, 1) := by decide +kernel
theorem dX1_columnsOf_81 : decode cX1_columnsOf 81 = .ok (.getfield 18, 3) := by decide +kernel
theorem dX1_columnsOf_84 : decode cX1_columnsOf 84 = .ok (.iload_n 1, 1) := by decide +kernel
theorem dX1_columnsOf_85 : decode cX1_columnsOf 85 = .ok (.iconst 0, 1) := by decide +kernel
theorem dX1_columnsOf_86 : decode cX1_columnsOf 86 = .ok (.iadd, 1) := by decide +kernel
theorem dX1_columnsOf_87 : decode cX1_columnsOf 87 = .ok (.iaload, 1) := by decide +kernel
theorem dX1_columnsOf_88 : decode cX1_columnsOf 88 = .ok (.iload 10, 2) := by decide +kernel
theorem dX1_columnsOf_90 : decode cX1_columnsOf 90 = .ok (.iload 11, 2) := by decide +kernel
theorem dX1_columnsOf_92 : decode cX1_columnsOf 92 = .ok (.iload 4, 2) := by decide +kernel
theorem dX1_columnsOf_94 : decode cX1_columnsOf 94 = .ok (.iload_n 3, 1) := by decide +kernel
theorem dX1_columnsOf_95 : decode cX1_columnsOf 95 = .ok (.isub, 1) := by decide +kernel
theorem dX1_columnsOf_96 : decode cX1_columnsOf 96 = .ok (.iconst 1, 1) := by decide +kernel
theorem dX1_columnsOf_97 : decode cX1_columnsOf 97 = .ok (.iadd, 1) := by decide +kernel
theorem dX1_columnsOf_98 : decode cX1_columnsOf 98 = .ok (.iload 6, 2) := by decide +kernel
theorem dX1_columnsOf_100 : decode cX1_columnsOf 100 = .ok (.iload 5, 2) := by decide +kernel
theorem dX1_columnsOf_102 : decode cX1_columnsOf 102 = .ok (.isub, 1) := by decide +kernel
theorem dX1_columnsOf_103 : decode cX1_columnsOf 103 = .ok (.iconst 1, 1) := by decide +kernel
theorem dX1_columnsOf_104 : decode cX1_columnsOf 104 = .ok (.iadd, 1) := by decide +kernel
theorem dX1_columnsOf_105 : decode cX1_columnsOf 105 = .ok (.iload_n 2, 1) := by decide +kernel
theorem dX1_columnsOf_106 : decode cX1_columnsOf 106 = .ok (.iload 5, 2) := by decide +kernel
theorem dX1_columnsOf_108 : decode cX1_columnsOf 108 = .ok (.isub, 1) := by decide +kernel
theorem dX1_columnsOf_109 : decode cX1_columnsOf 109 = .ok (.iconst 1, 1) := by decide +kernel
theorem dX1_columnsOf_110 : decode cX1_columnsOf 110 = .ok (.iadd, 1) := by decide +kernel
theorem dX1_columnsOf_111 : decode cX1_columnsOf 111 = .ok (.invokestatic 56, 3) := by decide +kernel
theorem dX1_columnsOf_114 : decode cX1_columnsOf 114 = .ok (.ifCond .eq 12, 3) := by decide +kernel
theorem dX1_columnsOf_117 : decode cX1_columnsOf 117 = .ok (.lload 7, 2) := by decide +kernel
theorem dX1_columnsOf_119 : decode cX1_columnsOf 119 = .ok (.lconst 1, 1) := by decide +kernel
theorem dX1_columnsOf_120 : decode cX1_columnsOf 120 = .ok (.iload 9, 2) := by decide +kernel
theorem dX1_columnsOf_122 : decode cX1_columnsOf 122 = .ok (.lshl, 1) := by decide +kernel
theorem dX1_columnsOf_123 : decode cX1_columnsOf 123 = .ok (.lor, 1) := by decide +kernel
theorem dX1_columnsOf_124 : decode cX1_columnsOf 124 = .ok (.lstore 7, 2) := by decide +kernel
theorem dX1_columnsOf_126 : decode cX1_columnsOf 126 = .ok (.iinc 9 1, 3) := by decide +kernel
theorem dX1_columnsOf_129 : decode cX1_columnsOf 129 = .ok (.goto (-84), 3) := by decide +kernel
theorem dX1_columnsOf_132 : decode cX1_columnsOf 132 = .ok (.lload 7, 2) := by decide +kernel
theorem dX1_columnsOf_134 : decode cX1_columnsOf 134 = .ok (.lreturn, 1) := by decide +kernel
theorem dX1_belongs_0 : decode cX1_belongs 0 = .ok (.iload_n 0, 1) := by decide +kernel
theorem dX1_belongs_1 : decode cX1_belongs 1 = .ok (.tableswitch 100 1 3 #[27, 48, 83], 27) := by decide +kernel
theorem dX1_belongs_28 : decode cX1_belongs 28 = .ok (.iload_n 1, 1) := by decide +kernel
theorem dX1_belongs_29 : decode cX1_belongs 29 = .ok (.iload 4, 2) := by decide +kernel
theorem dX1_belongs_31 : decode cX1_belongs 31 = .ok (.imul, 1) := by decide +kernel
theorem dX1_belongs_32 : decode cX1_belongs 32 = .ok (.iload_n 2, 1) := by decide +kernel
theorem dX1_belongs_33 : decode cX1_belongs 33 = .ok (.iload_n 3, 1) := by decide +kernel
theorem dX1_belongs_34 : decode cX1_belongs 34 = .ok (.imul, 1) := by decide +kernel
theorem dX1_belongs_35 : decode cX1_belongs 35 = .ok (.iadd, 1) := by decide +kernel
theorem dX1_belongs_36 : decode cX1_belongs 36 = .ok (.iload_n 3, 1) := by decide +kernel
theorem dX1_belongs_37 : decode cX1_belongs 37 = .ok (.iload 4, 2) := by decide +kernel
theorem dX1_belongs_39 : decode cX1_belongs 39 = .ok (.imul, 1) := by decide +kernel
theorem dX1_belongs_40 : decode cX1_belongs 40 = .ok (.if_icmp .gt 7, 3) := by decide +kernel
theorem dX1_belongs_43 : decode cX1_belongs 43 = .ok (.iconst 1, 1) := by decide +kernel
theorem dX1_belongs_44 : decode cX1_belongs 44 = .ok (.goto 4, 3) := by decide +kernel
theorem dX1_belongs_47 : decode cX1_belongs 47 = .ok (.iconst 0, 1) := by decide +kernel
theorem dX1_belongs_48 : decode cX1_belongs 48 = .ok (.ireturn, 1) := by decide +kernel
theorem dX1_belongs_49 : decode cX1_belongs 49 = .ok (.iload_n 1, 1) := by decide +kernel
theorem dX1_belongs_50 : decode cX1_belongs 50 = .ok (.iload_n 1, 1) := by decide +kernel
theorem dX1_belongs_51 : decode cX1_belongs 51 = .ok (.imul, 1) := by decide +kernel
theorem dX1_belongs_52 : decode cX1_belongs 52 = .ok (.iload 4, 2) := by decide +kernel
theorem dX1_belongs_54 : decode cX1_belongs 54 = .ok (.imul, 1) := by decide +kernel
theorem dX1_belongs_55 : decode cX1_belongs 55 = .ok (.iload 4, 2) := by decide +kernel
theorem dX1_belongs_57 : decode cX1_belongs 57 = .ok (.imul, 1) := by decide +kernel
theorem dX1_belongs_58 : decode cX1_belongs 58 = .ok (.iload_n 2, 1) := by decide +kernel
theorem dX1_belongs_59 : decode cX1_belongs 59 = .ok (.iload_n 2, 1) := by decide +kernel
theorem dX1_belongs_60 : decode cX1_belongs 60 = .ok (.imul, 1) := by decide +kernel
theorem dX1_belongs_61 : decode cX1_belongs 61 = .ok (.iload_n 3, 1) := by decide +kernel
theorem dX1_belongs_62 : decode cX1_belongs 62 = .ok (.imul, 1) := by decide +kernel
theorem dX1_belongs_63 : decode cX1_belongs 63 = .ok (.iload_n 3, 1) := by decide +kernel
theorem dX1_belongs_64 : decode cX1_belongs 64 = .ok (.imul, 1) := by decide +kernel
theorem dX1_belongs_65 : decode cX1_belongs 65 = .ok (.iadd, 1) := by decide +kernel
theorem dX1_belongs_66 : decode cX1_belongs 66 = .ok (.iload_n 3, 1) := by decide +kernel
theorem dX1_belongs_67 : decode cX1_belongs 67 = .ok (.iload_n 3, 1) := by decide +kernel
theorem dX1_belongs_68 : decode cX1_belongs 68 = .ok (.imul, 1) := by decide +kernel
theorem dX1_belongs_69 : decode cX1_belongs 69 = .ok (.iload 4, 2) := by decide +kernel
theorem dX1_belongs_71 : decode cX1_belongs 71 = .ok (.imul, 1) := by decide +kernel
theorem dX1_belongs_72 : decode cX1_belongs 72 = .ok (.iload 4, 2) := by decide +kernel
theorem dX1_belongs_74 : decode cX1_belongs 74 = .ok (.imul, 1) := by decide +kernel
theorem dX1_belongs_75 : decode cX1_belongs 75 = .ok (.if_icmp .gt 7, 3) := by decide +kernel
theorem dX1_belongs_78 : decode cX1_belongs 78 = .ok (.iconst 1, 1) := by decide +kernel
theorem dX1_belongs_79 : decode cX1_belongs 79 = .ok (.goto 4, 3) := by decide +kernel
theorem dX1_belongs_82 : decode cX1_belongs 82 = .ok (.iconst 0, 1) := by decide +kernel
theorem dX1_belongs_83 : decode cX1_belongs 83 = .ok (.ireturn, 1) := by decide +kernel
theorem dX1_belongs_84 : decode cX1_belongs 84 = .ok (.iload_n 1, 1) := by decide +kernel
theorem dX1_belongs_85 : decode cX1_belongs 85 = .ok (.iload 4, 2) := by decide +kernel
theorem dX1_belongs_87 : decode cX1_belongs 87 = .ok (.imul, 1) := by decide +kernel
theorem dX1_belongs_88 : decode cX1_belongs 88 = .ok (.iload_n 3, 1) := by decide +kernel
theorem dX1_belongs_89 : decode cX1_belongs 89 = .ok (.iload 5, 2) := by decide +kernel
theorem dX1_belongs_91 : decode cX1_belongs 91 = .ok (.imul, 1) := by decide +kernel
theorem dX1_belongs_92 : decode cX1_belongs 92 = .ok (.if_icmp .gt 7, 3) := by decide +kernel
theorem dX1_belongs_95 : decode cX1_belongs 95 = .ok (.iconst 1, 1) := by decide +kernel
theorem dX1_belongs_96 : decode cX1_belongs 96 = .ok (.goto 4, 3) := by decide +kernel
theorem dX1_belongs_99 : decode cX1_belongs 99 = .ok (.iconst 0, 1) := by decide +kernel
theorem dX1_belongs_100 : decode cX1_belongs 100 = .ok (.ireturn, 1) := by decide +kernel
theorem dX1_belongs_101 : decode cX1_belongs 101 = .ok (.iconst 1, 1) := by decide +kernel
theorem dX1_belongs_102 : decode cX1_belongs 102 = .ok (.ireturn, 1) := by decide +kernel
theorem dX2_init_0 : decode cX2_init 0 = .ok (.aload_n 0, 1) := by decide +kernel
theorem dX2_init_1 : decode cX2_init 1 = .ok (.invokespecial 3, 3) := by decide +kernel
theorem dX2_init_4 : decode cX2_init 4 = .ok (.aload_n 0, 1) := by decide +kernel
theorem dX2_init_5 : decode cX2_init 5 = .ok (.iconst 5, 1) := by decide +kernel
theorem dX2_init_6 : decode cX2_init 6 = .ok (.newarray .int, 2) := by decide +kernel
theorem dX2_init_8 : decode cX2_init 8 = .ok (.putfield 9, 3) := by decide +kernel
theorem dX2_init_11 : decode cX2_init 11 = .ok (.aload_n 0, 1) := by decide +kernel
theorem dX2_init_12 : decode cX2_init 12 = .ok (.iload_n 1, 1) := by decide +kernel
theorem dX2_init_13 : decode cX2_init 13 = .ok (.putfield 15, 3) := by decide +kernel
theorem dX2_init_16 : decode cX2_init 16 = .ok (.aload_n 0, 1) := by decide +kernel
theorem dX2_init_17 : decode cX2_init 17 = .ok (.iload_n 2, 1) := by decide +kernel
theorem dX2_init_18 : decode cX2_init 18 = .ok (.putfield 19, 3) := by decide +kernel
theorem dX2_init_21 : decode cX2_init 21 = .ok (.aload_n 0, 1) := by decide +kernel
theorem dX2_init_22 : decode cX2_init 22 = .ok (.iload_n 1, 1) := by decide +kernel
theorem dX2_init_23 : decode cX2_init 23 = .ok (.bipush 7, 2) := by decide +kernel
theorem dX2_init_25 : decode cX2_init 25 = .ok (.imul, 1) := by decide +kernel
theorem dX2_init_26 : decode cX2_init 26 = .ok (.newarray .int, 2) := by decide +kernel
theorem dX2_init_28 : decode cX2_init 28 = .ok (.putfield 22, 3) := by decide +kernel
theorem dX2_init_31 : decode cX2_init 31 = .ok (.aload_n 0, 1) := by decide +kernel
theorem dX2_init_32 : decode cX2_init 32 = .ok (.iload_n 2, 1) := by decide +kernel
theorem dX2_init_33 : decode cX2_init 33 = .ok (.iconst 5, 1) := by decide +kernel
theorem dX2_init_34 : decode cX2_init 34 = .ok (.imul, 1) := by decide +kernel
theorem dX2_init_35 : decode cX2_init 35 = .ok (.newarray .int, 2) := by decide +kernel
theorem dX2_init_37 : decode cX2_init 37 = .ok (.putfield 25, 3) := by decide +kernel
theorem dX2_init_40 : decode cX2_init 40 = .ok (.return_, 1) := by decide +kernel
theorem dX2_putTotals_0 : decode cX2_putTotals 0 = .ok (.aload_n 0, 1) := by decide +kernel
theorem dX2_putTotals_1 : decode cX2_putTotals 1 = .ok (.getfield 9, 3) := by decide +kernel
theorem dX2_putTotals_4 : decode cX2_putTotals 4 = .ok (.iconst 0, 1) := by decide +kernel
theorem dX2_putTotals_5 : decode cX2_putTotals 5 = .ok (.iload_n 1, 1) := by decide +kernel
theorem dX2_putTotals_6 : decode cX2_putTotals 6 = .ok (.iastore, 1) := by decide +kernel
theorem dX2_putTotals_7 : decode cX2_putTotals 7 = .ok (.aload_n 0, 1) := by decide +kernel
theorem dX2_putTotals_8 : decode cX2_putTotals 8 = .ok (.getfield 9, 3) := by decide +kernel
theorem dX2_putTotals_11 : decode cX2_putTotals 11 = .ok (.iconst 1, 1) := by decide +kernel
theorem dX2_putTotals_12 : decode cX2_putTotals 12 = .ok (.aload_n 0, 1) := by decide +kernel
theorem dX2_putTotals_13 : decode cX2_putTotals 13 = .ok (.getfield 15, 3) := by decide +kernel
theorem dX2_putTotals_16 : decode cX2_putTotals 16 = .ok (.iastore, 1) := by decide +kernel
theorem dX2_putTotals_17 : decode cX2_putTotals 17 = .ok (.aload_n 0, 1) := by decide +kernel
theorem dX2_putTotals_18 : decode cX2_putTotals 18 = .ok (.getfield 9, 3) := by decide +kernel
theorem dX2_putTotals_21 : decode cX2_putTotals 21 = .ok (.iconst 2, 1) := by decide +kernel
theorem dX2_putTotals_22 : decode cX2_putTotals 22 = .ok (.iload_n 2, 1) := by decide +kernel
theorem dX2_putTotals_23 : decode cX2_putTotals 23 = .ok (.iastore, 1) := by decide +kernel
theorem dX2_putTotals_24 : decode cX2_putTotals 24 = .ok (.aload_n 0, 1) := by decide +kernel
theorem dX2_putTotals_25 : decode cX2_putTotals 25 = .ok (.getfield 9, 3) := by decide +kernel
theorem dX2_putTotals_28 : decode cX2_putTotals 28 = .ok (.iconst 3, 1) := by decide +kernel
theorem dX2_putTotals_29 : decode cX2_putTotals 29 = .ok (.iload_n 3, 1) := by decide +kernel
theorem dX2_putTotals_30 : decode cX2_putTotals 30 = .ok (.iastore, 1) := by decide +kernel
theorem dX2_putTotals_31 : decode cX2_putTotals 31 = .ok (.aload_n 0, 1) := by decide +kernel
theorem dX2_putTotals_32 : decode cX2_putTotals 32 = .ok (.getfield 9, 3) := by decide +kernel
theorem dX2_putTotals_35 : decode cX2_putTotals 35 = .ok (.iconst 4, 1) := by decide +kernel
theorem dX2_putTotals_36 : decode cX2_putTotals 36 = .ok (.iload 4, 2) := by decide +kernel
theorem dX2_putTotals_38 : decode cX2_putTotals 38 = .ok (.iastore, 1) := by decide +kernel
theorem dX2_putTotals_39 : decode cX2_putTotals 39 = .ok (.return_, 1) := by decide +kernel
theorem dX3_init_0 : decode cX3_init 0 = .ok (.aload_n 0, 1) := by decide +kernel
theorem dX3_init_1 : decode cX3_init 1 = .ok (.invokespecial 3, 3) := by decide +kernel
theorem dX3_init_4 : decode cX3_init 4 = .ok (.aload_n 0, 1) := by decide +kernel
theorem dX3_init_5 : decode cX3_init 5 = .ok (.iconst 0, 1) := by decide +kernel
theorem dX3_init_6 : decode cX3_init 6 = .ok (.putfield 9, 3) := by decide +kernel
theorem dX3_init_9 : decode cX3_init 9 = .ok (.aload_n 0, 1) := by decide +kernel
theorem dX3_init_10 : decode cX3_init 10 = .ok (.bipush 14, 2) := by decide +kernel
theorem dX3_init_12 : decode cX3_init 12 = .ok (.newarray .int, 2) := by decide +kernel
theorem dX3_init_14 : decode cX3_init 14 = .ok (.putfield 15, 3) := by decide +kernel
theorem dX3_init_17 : decode cX3_init 17 = .ok (.aload_n 0, 1) := by decide +kernel
theorem dX3_init_18 : decode cX3_init 18 = .ok (.bipush 14, 2) := by decide +kernel
theorem dX3_init_20 : decode cX3_init 20 = .ok (.newarray .int, 2) := by decide +kernel
theorem dX3_init_22 : decode cX3_init 22 = .ok (.putfield 19, 3) := by decide +kernel
theorem dX3_init_25 : decode cX3_init 25 = .ok (.aload_n 0, 1) := by decide +kernel
theorem dX3_init_26 : decode cX3_init 26 = .ok (.bipush 14, 2) := by decide +kernel
theorem dX3_init_28 : decode cX3_init 28 = .ok (.newarray .int, 2) := by decide +kernel
theorem dX3_init_30 : decode cX3_init 30 = .ok (.putfield 22, 3) := by decide +kernel
theorem dX3_init_33 : decode cX3_init 33 = .ok (.aload_n 0, 1) := by decide +kernel
theorem dX3_init_34 : decode cX3_init 34 = .ok (.bipush 14, 2) := by decide +kernel
theorem dX3_init_36 : decode cX3_init 36 = .ok (.newarray .int, 2) := by decide +kernel
theorem dX3_init_38 : decode cX3_init 38 = .ok (.putfield 25, 3) := by decide +kernel
theorem dX3_init_41 : decode cX3_init 41 = .ok (.aload_n 0, 1) := by decide +kernel
theorem dX3_init_42 : decode cX3_init 42 = .ok (.sipush 196, 3) := by decide +kernel
theorem dX3_init_45 : decode cX3_init 45 = .ok (.newarray .int, 2) := by decide +kernel
theorem dX3_init_47 : decode cX3_init 47 = .ok (.putfield 28, 3) := by decide +kernel
theorem dX3_init_50 : decode cX3_init 50 = .ok (.aload_n 0, 1) := by decide +kernel
theorem dX3_init_51 : decode cX3_init 51 = .ok (.sipush 196, 3) := by decide +kernel
theorem dX3_init_54 : decode cX3_init 54 = .ok (.newarray .int, 2) := by decide +kernel
theorem dX3_init_56 : decode cX3_init 56 = .ok (.putfield 31, 3) := by decide +kernel
theorem dX3_init_59 : decode cX3_init 59 = .ok (.return_, 1) := by decide +kernel
theorem dX3_measure_0 : decode cX3_measure 0 = .ok (.aload_n 0, 1) := by decide +kernel
theorem dX3_measure_1 : decode cX3_measure 1 = .ok (.aload_n 1, 1) := by decide +kernel
theorem dX3_measure_2 : decode cX3_measure 2 = .ok (.getfield 34, 3) := by decide +kernel
theorem dX3_measure_5 : decode cX3_measure 5 = .ok (.putfield 9, 3) := by decide +kernel
theorem dX3_measure_8 : decode cX3_measure 8 = .ok (.iconst 0, 1) := by decide +kernel
theorem dX3_measure_9 : decode cX3_measure 9 = .ok (.istore 4, 2) := by decide +kernel
theorem dX3_measure_11 : decode cX3_measure 11 = .ok (.iload 4, 2) := by decide +kernel
theorem dX3_measure_13 : decode cX3_measure 13 = .ok (.aload_n 0, 1) := by decide +kernel
theorem dX3_measure_14 : decode cX3_measure 14 = .ok (.getfield 9, 3) := by decide +kernel
theorem dX3_measure_17 : decode cX3_measure 17 = .ok (.if_icmp .ge 111, 3) := by decide +kernel
theorem dX3_measure_20 : decode cX3_measure 20 = .ok (.aload_n 1, 1) := by decide +kernel
theorem dX3_measure_21 : decode cX3_measure 21 = .ok (.iload 4, 2) := by decide +kernel
theorem dX3_measure_23 : decode cX3_measure 23 = .ok (.iconst 1, 1) := by decide +kernel
theorem dX3_measure_24 : decode cX3_measure 24 = .ok (.invokevirtual 37, 3) := by decide +kernel
theorem dX3_measure_27 : decode cX3_measure 27 = .ok (.istore 5, 2) := by decide +kernel
theorem dX3_measure_29 : decode cX3_measure 29 = .ok (.aload_n 0, 1) := by decide +kernel
theorem dX3_measure_30 : decode cX3_measure 30 = .ok (.getfield 15, 3) := by decide +kernel
theorem dX3_measure_33 : decode cX3_measure 33 = .ok (.iload 4, 2) := by decide +kernel
theorem dX3_measure_35 : decode cX3_measure 35 = .ok (.iload_n 2, 1) := by decide +kernel
theorem dX3_measure_36 : decode cX3_measure 36 = .ok (.iload 5, 2) := by decide +kernel
theorem dX3_measure_38 : decode cX3_measure 38 = .ok (.iconst 1, 1) := by decide +kernel
theorem dX3_measure_39 : decode cX3_measure 39 = .ok (.isub, 1) := by decide +kernel
theorem dX3_measure_40 : decode cX3_measure 40 = .ok (.iload_n 3, 1) := by decide +kernel
theorem dX3_measure_41 : decode cX3_measure 41 = .ok (.imul, 1) := by decide +kernel
theorem dX3_measure_42 : decode cX3_measure 42 = .ok (.iadd, 1) := by decide +kernel
theorem dX3_measure_43 : decode cX3_measure 43 = .ok (.iastore, 1) := by decide +kernel
theorem dX3_measure_44 : decode cX3_measure 44 = .ok (.aload_n 0, 1) := by decide +kernel
theorem dX3_measure_45 : decode cX3_measure 45 = .ok (.getfield 15, 3) := by decide +kernel
theorem dX3_measure_48 : decode cX3_measure 48 = .ok (.iload 4, 2) := by decide +kernel
theorem dX3_measure_50 : decode cX3_measure 50 = .ok (.iaload, 1) := by decide +kernel
theorem dX3_measure_51 : decode cX3_measure 51 = .ok (.aload_n 1, 1) := by decide +kernel
theorem dX3_measure_52 : decode cX3_measure 52 = .ok (.getfield 41, 3) := by decide +kernel
theorem dX3_measure_55 : decode cX3_measure 55 = .ok (.iconst 0, 1) := by decide +kernel
theorem dX3_measure_56 : decode cX3_measure 56 = .ok (.iload 5, 2) := by decide +kernel
theorem dX3_measure_58 : decode cX3_measure 58 = .ok (.iadd, 1) := by decide +kernel
theorem dX3_measure_59 : decode cX3_measure 59 = .ok (.iaload, 1) := by decide +kernel
theorem dX3_measure_60 : decode cX3_measure 60 = .ok (.if_icmp .ge 5, 3) := by decide +kernel
theorem dX3_measure_63 : decode cX3_measure 63 = .ok (.iconst 0, 1) := by decide +kernel
theorem dX3_measure_64 : decode cX3_measure 64 = .ok (.ireturn, 1) := by decide +kernel
theorem dX3_measure_65 : decode cX3_measure 65 = .ok (.aload_n 0, 1) := by decide +kernel
theorem dX3_measure_66 : decode cX3_measure 66 = .ok (.getfield 19, 3) := by decide +kernel
theorem dX3_measure_69 : decode cX3_measure 69 = .ok (.iload 4, 2) := by decide +kernel
theorem dX3_measure_71 : decode cX3_measure 71 = .ok (.aload_n 1, 1) := by decide +kernel
theorem dX3_measure_72 : decode cX3_measure 72 = .ok (.iload 4, 2) := by decide +kernel
theorem dX3_measure_74 : decode cX3_measure 74 = .ok (.iconst 0, 1) := by decide +kernel
theorem dX3_measure_75 : decode cX3_measure 75 = .ok (.invokevirtual 37, 3) := by decide +kernel
theorem dX3_measure_78 : decode cX3_measure 78 = .ok (.aload_n 0, 1) := by decide +kernel
theorem dX3_measure_79 : decode cX3_measure 79 = .ok (.getfield 15, 3) := by decide +kernel
theorem dX3_measure_82 : decode cX3_measure 82 = .ok (.iload 4, 2) := by decide +kernel
theorem dX3_measure_84 : decode cX3_measure 84 = .ok (.iaload, 1) := by decide +kernel
theorem dX3_measure_85 : decode cX3_measure 85 = .ok (.imul, 1) := by decide +kernel
theorem dX3_measure_86 : decode cX3_measure 86 = .ok (.iastore, 1) := by decide +kernel
theorem dX3_measure_87 : decode cX3_measure 87 = .ok (.aload_n 0, 1) := by decide +kernel
theorem dX3_measure_88 : decode cX3_measure 88 = .ok (.getfield 22, 3) := by decide +kernel
theorem dX3_measure_91 : decode cX3_measure 91 = .ok (.iload 4, 2) := by decide +kernel
theorem dX3_measure_93 : decode cX3_measure 93 = .ok (.iload 4, 2) := by decide +kernel
theorem dX3_measure_95 : decode cX3_measure 95 = .ok (.ifCond .ne 7, 3) := by decide +kernel
theorem dX3_measure_98 : decode cX3_measure 98 = .ok (.iconst 0, 1) := by decide +kernel
theorem dX3_measure_99 : decode cX3_measure 99 = .ok (.goto 22, 3) := by decide +kernel
theorem dX3_measure_102 : decode cX3_measure 102 = .ok (.aload_n 0, 1) := by decide +kernel
theorem dX3_measure_103 : decode cX3_measure 103 = .ok (.getfield 15, 3) := by decide +kernel
theorem dX3_measure_106 : decode cX3_measure 106 = .ok (.iload 4, 2) := by decide +kernel
theorem dX3_measure_108 : decode cX3_measure 108 = .ok (.iconst 1, 1) := by decide +kernel
theorem dX3_measure_109 : decode cX3_measure 109 = .ok (.isub, 1) := by decide +kernel
theorem dX3_measure_110 : decode cX3_measure 110 = .ok (.iaload, 1) := by decide +kernel
theorem dX3_measure_111 : decode cX3_measure 111 = .ok (.aload_n 0, 1) := by decide +kernel
theorem dX3_measure_112 : decode cX3_measure 112 = .ok (.getfield 15, 3) := by decide +kernel
theorem dX3_measure_115 : decode cX3_measure 115 = .ok (.iload 4, 2) := by decide +kernel
theorem dX3_measure_117 : decode cX3_measure 117 = .ok (.iaload, 1) := by decide +kernel
theorem dX3_measure_118 : decode cX3_measure 118 = .ok (.invokestatic 44, 3) := by decide +kernel
theorem dX3_measure_121 : decode cX3_measure 121 = .ok (.iastore, 1) := by decide +kernel
theorem dX3_measure_122 : decode cX3_measure 122 = .ok (.iinc 4 1, 3) := by decide +kernel
theorem dX3_measure_125 : decode cX3_measure 125 = .ok (.goto (-114), 3) := by decide +kernel
theorem dX3_measure_128 : decode cX3_measure 128 = .ok (.aload_n 0, 1) := by decide +kernel
theorem dX3_measure_129 : decode cX3_measure 129 = .ok (.aload_n 1, 1) := by decide +kernel
theorem dX3_measure_130 : decode cX3_measure 130 = .ok (.invokevirtual 49, 3) := by decide +kernel
theorem dX3_measure_133 : decode cX3_measure 133 = .ok (.aload_n 0, 1) := by decide +kernel
theorem dX3_measure_134 : decode cX3_measure 134 = .ok (.invokevirtual 53, 3) := by decide +kernel
theorem dX3_measure_137 : decode cX3_measure 137 = .ok (.aload_n 0, 1) := by decide +kernel
theorem dX3_measure_138 : decode cX3_measure 138 = .ok (.getfield 9, 3) := by decide +kernel
theorem dX3_measure_141 : decode cX3_measure 141 = .ok (.ifCond .le 7, 3) := by decide +kernel
theorem dX3_measure_144 : decode cX3_measure 144 = .ok (.iconst 1, 1) := by decide +kernel
theorem dX3_measure_145 : decode cX3_measure 145 = .ok (.goto 4, 3) := by decide +kernel
theorem dX3_measure_148 : decode cX3_measure 148 = .ok (.iconst 0, 1) := by decide +kernel
theorem dX3_measure_149 : decode cX3_measure 149 = .ok (.ireturn, 1) := by decide +kernel
theorem dX3_widthOf_0 : decode cX3_widthOf 0 = .ok (.aload_n 0, 1) := by decide +kernel
theorem dX3_widthOf_1 : decode cX3_widthOf 1 = .ok (.getfield 28, 3) := by decide +kernel
theorem dX3_widthOf_4 : decode cX3_widthOf 4 = .ok (.iload_n 1, 1) := by decide +kernel
theorem dX3_widthOf_5 : decode cX3_widthOf 5 = .ok (.bipush 14, 2) := by decide +kernel
theorem dX3_widthOf_7 : decode cX3_widthOf 7 = .ok (.imul, 1) := by decide +kernel
theorem dX3_widthOf_8 : decode cX3_widthOf 8 = .ok (.iload_n 2, 1) := by decide +kernel
theorem dX3_widthOf_9 : decode cX3_widthOf 9 = .ok (.iadd, 1) := by decide +kernel
theorem dX3_widthOf_10 : decode cX3_widthOf 10 = .ok (.iconst 1, 1) := by decide +kernel
theorem dX3_widthOf_11 : decode cX3_widthOf 11 = .ok (.isub, 1) := by decide +kernel
theorem dX3_widthOf_12 : decode cX3_widthOf 12 = .ok (.iaload, 1) := by decide +kernel
theorem dX3_widthOf_13 : decode cX3_widthOf 13 = .ok (.ireturn, 1) := by decide +kernel
theorem dX3_heightOf_0 : decode cX3_heightOf 0 = .ok (.aload_n 0, 1) := by decide +kernel
theorem dX3_heightOf_1 : decode cX3_heightOf 1 = .ok (.getfield 31, 3) := by decide +kernel
theorem dX3_heightOf_4 : decode cX3_heightOf 4 = .ok (.iload_n 1, 1) := by decide +kernel
theorem dX3_heightOf_5 : decode cX3_heightOf 5 = .ok (.bipush 14, 2) := by decide +kernel
theorem dX3_heightOf_7 : decode cX3_heightOf 7 = .ok (.imul, 1) := by decide +kernel
theorem dX3_heightOf_8 : decode cX3_heightOf 8 = .ok (.iload_n 2, 1) := by decide +kernel
theorem dX3_heightOf_9 : decode cX3_heightOf 9 = .ok (.iadd, 1) := by decide +kernel
theorem dX3_heightOf_10 : decode cX3_heightOf 10 = .ok (.iconst 1, 1) := by decide +kernel
theorem dX3_heightOf_11 : decode cX3_heightOf 11 = .ok (.isub, 1) := by decide +kernel
theorem dX3_heightOf_12 : decode cX3_heightOf 12 = .ok (.iaload, 1) := by decide +kernel
theorem dX3_heightOf_13 : decode cX3_heightOf 13 = .ok (.ireturn, 1) := by decide +kernel
theorem dX3_findLastEnds_0 : decode cX3_findLastEnds 0 = .ok (.aload_n 0, 1) := by decide +kernel
theorem dX3_findLastEnds_1 : decode cX3_findLastEnds 1 = .ok (.getfield 9, 3) := by decide +kernel
theorem dX3_findLastEnds_4 : decode cX3_findLastEnds 4 = .ok (.istore_n 2, 1) := by decide +kernel
theorem dX3_findLastEnds_5 : decode cX3_findLastEnds 5 = .ok (.aload_n 0, 1) := by decide +kernel
theorem dX3_findLastEnds_6 : decode cX3_findLastEnds 6 = .ok (.getfield 9, 3) := by decide +kernel
theorem dX3_findLastEnds_9 : decode cX3_findLastEnds 9 = .ok (.iconst 1, 1) := by decide +kernel
theorem dX3_findLastEnds_10 : decode cX3_findLastEnds 10 = .ok (.isub, 1) := by decide +kernel
theorem dX3_findLastEnds_11 : decode cX3_findLastEnds 11 = .ok (.istore_n 3, 1) := by decide +kernel
theorem dX3_findLastEnds_12 : decode cX3_findLastEnds 12 = .ok (.iload_n 3, 1) := by decide +kernel
theorem dX3_findLastEnds_13 : decode cX3_findLastEnds 13 = .ok (.ifCond .lt 27, 3) := by decide +kernel
theorem dX3_findLastEnds_16 : decode cX3_findLastEnds 16 = .ok (.aload_n 0, 1) := by decide +kernel
theorem dX3_findLastEnds_17 : decode cX3_findLastEnds 17 = .ok (.getfield 25, 3) := by decide +kernel
theorem dX3_findLastEnds_20 : decode cX3_findLastEnds 20 = .ok (.iload_n 3, 1) := by decide +kernel
theorem dX3_findLastEnds_21 : decode cX3_findLastEnds 21 = .ok (.iload_n 2, 1) := by decide +kernel
theorem dX3_findLastEnds_22 : decode cX3_findLastEnds 22 = .ok (.iastore, 1) := by decide +kernel
theorem dX3_findLastEnds_23 : decode cX3_findLastEnds 23 = .ok (.aload_n 1, 1) := by decide +kernel
theorem dX3_findLastEnds_24 : decode cX3_findLastEnds 24 = .ok (.iload_n 3, 1) := by decide +kernel
theorem dX3_findLastEnds_25 : decode cX3_findLastEnds 25 = .ok (.iconst 2, 1) := by decide +kernel
theorem dX3_findLastEnds_26 : decode cX3_findLastEnds 26 = .ok (.invokevirtual 37, 3) := by decide +kernel
theorem dX3_findLastEnds_29 : decode cX3_findLastEnds 29 = .ok (.ifCond .eq 5, 3) := by decide +kernel
theorem dX3_findLastEnds_32 : decode cX3_findLastEnds 32 = .ok (.iload_n 3, 1) := by decide +kernel
theorem dX3_findLastEnds_33 : decode cX3_findLastEnds 33 = .ok (.istore_n 2, 1) := by decide +kernel
theorem dX3_findLastEnds_34 : decode cX3_findLastEnds 34 = .ok (.iinc 3 (-1), 3) := by decide +kernel
theorem dX3_findLastEnds_37 : decode cX3_findLastEnds 37 = .ok (.goto (-25), 3) := by decide +kernel
theorem dX3_findLastEnds_40 : decode cX3_findLastEnds 40 = .ok (.return_, 1) := by decide +kernel
theorem dX3_measureLines_0 : decode cX3_measureLines 0 = .ok (.iconst 0, 1) := by decide +kernel
theorem dX3_measureLines_1 : decode cX3_measureLines 1 = .ok (.istore_n 1, 1) := by decide +kernel
theorem dX3_measureLines_2 : decode cX3_measureLines 2 = .ok (.iload_n 1, 1) := by decide +kernel
theorem dX3_measureLines_3 : decode cX3_measureLines 3 = .ok (.aload_n 0, 1) := by decide +kernel
theorem dX3_measureLines_4 : decode cX3_measureLines 4 = .ok (.getfield 9, 3) := by decide +kernel
theorem dX3_measureLines_7 : decode cX3_measureLines 7 = .ok (.if_icmp .ge 103, 3) := by decide +kernel
theorem dX3_measureLines_10 : decode cX3_measureLines 10 = .ok (.aload_n 0, 1) := by decide +kernel
theorem dX3_measureLines_11 : decode cX3_measureLines 11 = .ok (.getfield 19, 3) := by decide +kernel
theorem dX3_measureLines_14 : decode cX3_measureLines 14 = .ok (.iload_n 1, 1) := by decide +kernel
theorem dX3_measureLines_15 : decode cX3_measureLines 15 = .ok (.iaload, 1) := by decide +kernel
theorem dX3_measureLines_16 : decode cX3_measureLines 16 = .ok (.istore_n 2, 1) := by decide +kernel
theorem dX3_measureLines_17 : decode cX3_measureLines 17 = .ok (.aload_n 0, 1) := by decide +kernel
theorem dX3_measureLines_18 : decode cX3_measureLines 18 = .ok (.getfield 15, 3) := by decide +kernel
theorem dX3_measureLines_21 : decode cX3_measureLines 21 = .ok (.iload_n 1, 1) := by decide +kernel
theorem dX3_measureLines_22 : decode cX3_measureLines 22 = .ok (.iaload, 1) := by decide +kernel
theorem dX3_measureLines_23 : decode cX3_measureLines 23 = .ok (.istore_n 3, 1) := by decide +kernel
theorem dX3_measureLines_24 : decode cX3_measureLines 24 = .ok (.iload_n 1, 1) := by decide +kernel
theorem dX3_measureLines_25 : decode cX3_measureLines 25 = .ok (.istore 4, 2) := by decide +kernel
theorem dX3_measureLines_27 : decode cX3_measureLines 27 = .ok (.iload 4, 2) := by decide +kernel
theorem dX3_measureLines_29 : decode cX3_measureLines 29 = .ok (.aload_n 0, 1) := by decide +kernel
theorem dX3_measureLines_30 : decode cX3_measureLines 30 = .ok (.getfield 9, 3) := by decide +kernel
theorem dX3_measureLines_33 : decode cX3_measureLines 33 = .ok (.if_icmp .ge 71, 3) := by decide +kernel
theorem dX3_measureLines_36 : decode cX3_measureLines 36 = .ok (.iload 4, 2) := by decide +kernel
theorem dX3_measureLines_38 : decode cX3_measureLines 38 = .ok (.iload_n 1, 1) := by decide +kernel
theorem dX3_measureLines_39 : decode cX3_measureLines 39 = .ok (.if_icmp .le 33, 3) := by decide +kernel
theorem dX3_measureLines_42 : decode cX3_measureLines 42 = .ok (.iload_n 2, 1) := by decide +kernel
theorem dX3_measureLines_43 : decode cX3_measureLines 43 = .ok (.aload_n 0, 1) := by decide +kernel
theorem dX3_measureLines_44 : decode cX3_measureLines 44 = .ok (.getfield 22, 3) := by decide +kernel
theorem dX3_measureLines_47 : decode cX3_measureLines 47 = .ok (.iload 4, 2) := by decide +kernel
theorem dX3_measureLines_49 : decode cX3_measureLines 49 = .ok (.iaload, 1) := by decide +kernel
theorem dX3_measureLines_50 : decode cX3_measureLines 50 = .ok (.aload_n 0, 1) := by decide +kernel
theorem dX3_measureLines_51 : decode cX3_measureLines 51 = .ok (.getfield 19, 3) := by decide +kernel
theorem dX3_measureLines_54 : decode cX3_measureLines 54 = .ok (.iload 4, 2) := by decide +kernel
theorem dX3_measureLines_56 : decode cX3_measureLines 56 = .ok (.iaload, 1) := by decide +kernel
theorem dX3_measureLines_57 : decode cX3_measureLines 57 = .ok (.iadd, 1) := by decide +kernel
theorem dX3_measureLines_58 : decode cX3_measureLines 58 = .ok (.iadd, 1) := by decide +kernel
theorem dX3_measureLines_59 : decode cX3_measureLines 59 = .ok (.istore_n 2, 1) := by decide +kernel
theorem dX3_measureLines_60 : decode cX3_measureLines 60 = .ok (.iload_n 3, 1) := by decide +kernel
theorem dX3_measureLines_61 : decode cX3_measureLines 61 = .ok (.aload_n 0, 1) := by decide +kernel
theorem dX3_measureLines_62 : decode cX3_measureLines 62 = .ok (.getfield 15, 3) := by decide +kernel
theorem dX3_measureLines_65 : decode cX3_measureLines 65 = .ok (.iload 4, 2) := by decide +kernel
theorem dX3_measureLines_67 : decode cX3_measureLines 67 = .ok (.iaload, 1) := by decide +kernel
theorem dX3_measureLines_68 : decode cX3_measureLines 68 = .ok (.invokestatic 56, 3) := by decide +kernel
theorem dX3_measureLines_71 : decode cX3_measureLines 71 = .ok (.istore_n 3, 1) := by decide +kernel
theorem dX3_measureLines_72 : decode cX3_measureLines 72 = .ok (.aload_n 0, 1) := by decide +kernel
theorem dX3_measureLines_73 : decode cX3_measureLines 73 = .ok (.getfield 28, 3) := by decide +kernel
theorem dX3_measureLines_76 : decode cX3_measureLines 76 = .ok (.iload_n 1, 1) := by decide +kernel
theorem dX3_measureLines_77 : decode cX3_measureLines 77 = .ok (.bipush 14, 2) := by decide +kernel
theorem dX3_measureLines_79 : decode cX3_measureLines 79 = .ok (.imul, 1) := by decide +kernel
theorem dX3_measureLines_80 : decode cX3_measureLines 80 = .ok (.iload 4, 2) := by decide +kernel
theorem dX3_measureLines_82 : decode cX3_measureLines 82 = .ok (.iadd, 1) := by decide +kernel
theorem dX3_measureLines_83 : decode cX3_measureLines 83 = .ok (.iload_n 2, 1) := by decide +kernel
theorem dX3_measureLines_84 : decode cX3_measureLines 84 = .ok (.iastore, 1) := by decide +kernel
theorem dX3_measureLines_85 : decode cX3_measureLines 85 = .ok (.aload_n 0, 1) := by decide +kernel
theorem dX3_measureLines_86 : decode cX3_measureLines 86 = .ok (.getfield 31, 3) := by decide +kernel
theorem dX3_measureLines_89 : decode cX3_measureLines 89 = .ok (.iload_n 1, 1) := by decide +kernel
theorem dX3_measureLines_90 : decode cX3_measureLines 90 = .ok (.bipush 14, 2) := by decide +kernel
theorem dX3_measureLines_92 : decode cX3_measureLines 92 = .ok (.imul, 1) := by decide +kernel
theorem dX3_measureLines_93 : decode cX3_measureLines 93 = .ok (.iload 4, 2) := by decide +kernel
theorem dX3_measureLines_95 : decode cX3_measureLines 95 = .ok (.iadd, 1) := by decide +kernel
theorem dX3_measureLines_96 : decode cX3_measureLines 96 = .ok (.iload_n 3, 1) := by decide +kernel
theorem dX3_measureLines_97 : decode cX3_measureLines 97 = .ok (.iastore, 1) := by decide +kernel
theorem dX3_measureLines_98 : decode cX3_measureLines 98 = .ok (.iinc 4 1, 3) := by decide +kernel
theorem dX3_measureLines_101 : decode cX3_measureLines 101 = .ok (.goto (-74), 3) := by decide +kernel
theorem dX3_measureLines_104 : decode cX3_measureLines 104 = .ok (.iinc 1 1, 3) := by decide +kernel
theorem dX3_measureLines_107 : decode cX3_measureLines 107 = .ok (.goto (-105), 3) := by decide +kernel
theorem dX3_measureLines_110 : decode cX3_measureLines 110 = .ok (.return_, 1) := by decide +kernel
theorem dX4_init_0 : decode cX4_init 0 = .ok (.aload_n 0, 1) := by decide +kernel
theorem dX4_init_1 : decode cX4_init 1 = .ok (.invokespecial 3, 3) := by decide +kernel
theorem dX4_init_4 : decode cX4_init 4 = .ok (.aload_n 0, 1) := by decide +kernel
theorem dX4_init_5 : decode cX4_init 5 = .ok (.new 9, 3) := by decide +kernel
theorem dX4_init_8 : decode cX4_init 8 = .ok (.dup, 1) := by decide +kernel
theorem dX4_init_9 : decode cX4_init 9 = .ok (.invokespecial 11, 3) := by decide +kernel
theorem dX4_init_12 : decode cX4_init 12 = .ok (.putfield 12, 3) := by decide +kernel
theorem dX4_init_15 : decode cX4_init 15 = .ok (.aload_n 0, 1) := by decide +kernel
theorem dX4_init_16 : decode cX4_init 16 = .ok (.new 18, 3) := by decide +kernel
theorem dX4_init_19 : decode cX4_init 19 = .ok (.dup, 1) := by decide +kernel
theorem dX4_init_20 : decode cX4_init 20 = .ok (.invokespecial 20, 3) := by decide +kernel
theorem dX4_init_23 : decode cX4_init 23 = .ok (.putfield 21, 3) := by decide +kernel
theorem dX4_init_26 : decode cX4_init 26 = .ok (.aload_n 0, 1) := by decide +kernel
theorem dX4_init_27 : decode cX4_init 27 = .ok (.sipush 504, 3) := by decide +kernel
theorem dX4_init_30 : decode cX4_init 30 = .ok (.newarray .int, 2) := by decide +kernel
theorem dX4_init_32 : decode cX4_init 32 = .ok (.putfield 25, 3) := by decide +kernel
theorem dX4_init_35 : decode cX4_init 35 = .ok (.aload_n 0, 1) := by decide +kernel
theorem dX4_init_36 : decode cX4_init 36 = .ok (.bipush 15, 2) := by decide +kernel
theorem dX4_init_38 : decode cX4_init 38 = .ok (.newarray .int, 2) := by decide +kernel
theorem dX4_init_40 : decode cX4_init 40 = .ok (.putfield 29, 3) := by decide +kernel
theorem dX4_init_43 : decode cX4_init 43 = .ok (.aload_n 0, 1) := by decide +kernel
theorem dX4_init_44 : decode cX4_init 44 = .ok (.bipush 14, 2) := by decide +kernel
theorem dX4_init_46 : decode cX4_init 46 = .ok (.newarray .int, 2) := by decide +kernel
theorem dX4_init_48 : decode cX4_init 48 = .ok (.putfield 32, 3) := by decide +kernel
theorem dX4_init_51 : decode cX4_init 51 = .ok (.aload_n 0, 1) := by decide +kernel
theorem dX4_init_52 : decode cX4_init 52 = .ok (.bipush 14, 2) := by decide +kernel
theorem dX4_init_54 : decode cX4_init 54 = .ok (.newarray .int, 2) := by decide +kernel
theorem dX4_init_56 : decode cX4_init 56 = .ok (.putfield 35, 3) := by decide +kernel
theorem dX4_init_59 : decode cX4_init 59 = .ok (.aload_n 0, 1) := by decide +kernel
theorem dX4_init_60 : decode cX4_init 60 = .ok (.bipush 14, 2) := by decide +kernel
theorem dX4_init_62 : decode cX4_init 62 = .ok (.newarray .int, 2) := by decide +kernel
theorem dX4_init_64 : decode cX4_init 64 = .ok (.putfield 38, 3) := by decide +kernel
theorem dX4_init_67 : decode cX4_init 67 = .ok (.aload_n 0, 1) := by decide +kernel
theorem dX4_init_68 : decode cX4_init 68 = .ok (.bipush 14, 2) := by decide +kernel
theorem dX4_init_70 : decode cX4_init 70 = .ok (.newarray .int, 2) := by decide +kernel
theorem dX4_init_72 : decode cX4_init 72 = .ok (.putfield 41, 3) := by decide +kernel
theorem dX4_init_75 : decode cX4_init 75 = .ok (.aload_n 0, 1) := by decide +kernel
theorem dX4_init_76 : decode cX4_init 76 = .ok (.bipush 15, 2) := by decide +kernel
theorem dX4_init_78 : decode cX4_init 78 = .ok (.newarray .int, 2) := by decide +kernel
theorem dX4_init_80 : decode cX4_init 80 = .ok (.putfield 44, 3) := by decide +kernel
theorem dX4_init_83 : decode cX4_init 83 = .ok (.return_, 1) := by decide +kernel
theorem dX4_hasLayout_0 : decode cX4_hasLayout 0 = .ok (.aload_n 0, 1) := by decide +kernel
theorem dX4_hasLayout_1 : decode cX4_hasLayout 1 = .ok (.aload_n 1, 1) := by decide +kernel
theorem dX4_hasLayout_2 : decode cX4_hasLayout 2 = .ok (.iload_n 2, 1) := by decide +kernel
theorem dX4_hasLayout_3 : decode cX4_hasLayout 3 = .ok (.iload_n 3, 1) := by decide +kernel
theorem dX4_hasLayout_4 : decode cX4_hasLayout 4 = .ok (.iload 4, 2) := by decide +kernel
theorem dX4_hasLayout_6 : decode cX4_hasLayout 6 = .ok (.invokevirtual 47, 3) := by decide +kernel
theorem dX4_hasLayout_9 : decode cX4_hasLayout 9 = .ok (.ifCond .ne 5, 3) := by decide +kernel
theorem dX4_hasLayout_12 : decode cX4_hasLayout 12 = .ok (.iconst 0, 1) := by decide +kernel
theorem dX4_hasLayout_13 : decode cX4_hasLayout 13 = .ok (.ireturn, 1) := by decide +kernel
theorem dX4_hasLayout_14 : decode cX4_hasLayout 14 = .ok (.aload_n 0, 1) := by decide +kernel
theorem dX4_hasLayout_15 : decode cX4_hasLayout 15 = .ok (.iconst 1, 1) := by decide +kernel
theorem dX4_hasLayout_16 : decode cX4_hasLayout 16 = .ok (.iconst 0, 1) := by decide +kernel
theorem dX4_hasLayout_17 : decode cX4_hasLayout 17 = .ok (.invokevirtual 51, 3) := by decide +kernel
theorem dX4_hasLayout_20 : decode cX4_hasLayout 20 = .ok (.aload_n 0, 1) := by decide +kernel
theorem dX4_hasLayout_21 : decode cX4_hasLayout 21 = .ok (.getfield 55, 3) := by decide +kernel
theorem dX4_hasLayout_24 : decode cX4_hasLayout 24 = .ok (.ifCond .le 7, 3) := by decide +kernel
theorem dX4_hasLayout_27 : decode cX4_hasLayout 27 = .ok (.iconst 1, 1) := by decide +kernel
theorem dX4_hasLayout_28 : decode cX4_hasLayout 28 = .ok (.goto 4, 3) := by decide +kernel
theorem dX4_hasLayout_31 : decode cX4_hasLayout 31 = .ok (.iconst 0, 1) := by decide +kernel
theorem dX4_hasLayout_32 : decode cX4_hasLayout 32 = .ok (.ireturn, 1) := by decide +kernel
theorem dX4_countLayouts_0 : decode cX4_countLayouts 0 = .ok (.aload_n 0, 1) := by decide +kernel
theorem dX4_countLayouts_1 : decode cX4_countLayouts 1 = .ok (.aload_n 1, 1) := by decide +kernel
theorem dX4_countLayouts_2 : decode cX4_countLayouts 2 = .ok (.iload_n 2, 1) := by decide +kernel
theorem dX4_countLayouts_3 : decode cX4_countLayouts 3 = .ok (.aload_n 1, 1) := by decide +kernel
theorem dX4_countLayouts_4 : decode cX4_countLayouts 4 = .ok (.getfield 59, 3) := by decide +kernel
theorem dX4_countLayouts_7 : decode cX4_countLayouts 7 = .ok (.iconst 0, 1) := by decide +kernel
theorem dX4_countLayouts_8 : decode cX4_countLayouts 8 = .ok (.iaload, 1) := by decide +kernel
theorem dX4_countLayouts_9 : decode cX4_countLayouts 9 = .ok (.aload_n 1, 1) := by decide +kernel
theorem dX4_countLayouts_10 : decode cX4_countLayouts 10 = .ok (.getfield 59, 3) := by decide +kernel
theorem dX4_countLayouts_13 : decode cX4_countLayouts 13 = .ok (.bipush 7, 2) := by decide +kernel
theorem dX4_countLayouts_15 : decode cX4_countLayouts 15 = .ok (.iaload, 1) := by decide +kernel
theorem dX4_countLayouts_16 : decode cX4_countLayouts 16 = .ok (.invokevirtual 47, 3) := by decide +kernel
theorem dX4_countLayouts_19 : decode cX4_countLayouts 19 = .ok (.ifCond .ne 5, 3) := by decide +kernel
theorem dX4_countLayouts_22 : decode cX4_countLayouts 22 = .ok (.iconst 0, 1) := by decide +kernel
theorem dX4_countLayouts_23 : decode cX4_countLayouts 23 = .ok (.ireturn, 1) := by decide +kernel
theorem dX4_countLayouts_24 : decode cX4_countLayouts 24 = .ok (.aload_n 0, 1) := by decide +kernel
theorem dX4_countLayouts_25 : decode cX4_countLayouts 25 = .ok (.ldc 66, 2) := by decide +kernel
theorem dX4_countLayouts_27 : decode cX4_countLayouts 27 = .ok (.iconst 0, 1) := by decide +kernel
theorem dX4_countLayouts_28 : decode cX4_countLayouts 28 = .ok (.invokevirtual 51, 3) := by decide +kernel
theorem dX4_countLayouts_31 : decode cX4_countLayouts 31 = .ok (.aload_n 0, 1) := by decide +kernel
theorem dX4_countLayouts_32 : decode cX4_countLayouts 32 = .ok (.getfield 55, 3) := by decide +kernel
theorem dX4_countLayouts_35 : decode cX4_countLayouts 35 = .ok (.ireturn, 1) := by decide +kernel
theorem dX4_findBest_0 : decode cX4_findBest 0 = .ok (.aload_n 0, 1) := by decide +kernel
theorem dX4_findBest_1 : decode cX4_findBest 1 = .ok (.aload_n 1, 1) := by decide +kernel
theorem dX4_findBest_2 : decode cX4_findBest 2 = .ok (.iload_n 2, 1) := by decide +kernel
theorem dX4_findBest_3 : decode cX4_findBest 3 = .ok (.aload_n 1, 1) := by decide +kernel
theorem dX4_findBest_4 : decode cX4_findBest 4 = .ok (.getfield 59, 3) := by decide +kernel
theorem dX4_findBest_7 : decode cX4_findBest 7 = .ok (.iconst 0, 1) := by decide +kernel
theorem dX4_findBest_8 : decode cX4_findBest 8 = .ok (.iaload, 1) := by decide +kernel
theorem dX4_findBest_9 : decode cX4_findBest 9 = .ok (.aload_n 1, 1) := by decide +kernel
theorem dX4_findBest_10 : decode cX4_findBest 10 = .ok (.getfield 59, 3) := by decide +kernel
theorem dX4_findBest_13 : decode cX4_findBest 13 = .ok (.bipush 7, 2) := by decide +kernel
theorem dX4_findBest_15 : decode cX4_findBest 15 = .ok (.iaload, 1) := by decide +kernel
theorem dX4_findBest_16 : decode cX4_findBest 16 = .ok (.invokevirtual 47, 3) := by decide +kernel
theorem dX4_findBest_19 : decode cX4_findBest 19 = .ok (.ifCond .ne 5, 3) := by decide +kernel
theorem dX4_findBest_22 : decode cX4_findBest 22 = .ok (.iconst (-1), 1) := by decide +kernel
theorem dX4_findBest_23 : decode cX4_findBest 23 = .ok (.ireturn, 1) := by decide +kernel
theorem dX4_findBest_24 : decode cX4_findBest 24 = .ok (.aload_n 0, 1) := by decide +kernel
theorem dX4_findBest_25 : decode cX4_findBest 25 = .ok (.ldc 66, 2) := by decide +kernel
theorem dX4_findBest_27 : decode cX4_findBest 27 = .ok (.iconst 1, 1) := by decide +kernel
theorem dX4_findBest_28 : decode cX4_findBest 28 = .ok (.invokevirtual 51, 3) := by decide +kernel
theorem dX4_findBest_31 : decode cX4_findBest 31 = .ok (.aload_n 0, 1) := by decide +kernel
theorem dX4_findBest_32 : decode cX4_findBest 32 = .ok (.getfield 55, 3) := by decide +kernel
theorem dX4_findBest_35 : decode cX4_findBest 35 = .ok (.ifCond .le 10, 3) := by decide +kernel
theorem dX4_findBest_38 : decode cX4_findBest 38 = .ok (.aload_n 0, 1) := by decide +kernel
theorem dX4_findBest_39 : decode cX4_findBest 39 = .ok (.getfield 67, 3) := by decide +kernel
theorem dX4_findBest_42 : decode cX4_findBest 42 = .ok (.goto 4, 3) := by decide +kernel
theorem dX4_findBest_45 : decode cX4_findBest 45 = .ok (.iconst (-1), 1) := by decide +kernel
theorem dX4_findBest_46 : decode cX4_findBest 46 = .ok (.ireturn, 1) := by decide +kernel
theorem dX4_prepare_0 : decode cX4_prepare 0 = .ok (.aload_n 0, 1) := by decide +kernel
theorem dX4_prepare_1 : decode cX4_prepare 1 = .ok (.getfield 21, 3) := by decide +kernel
theorem dX4_prepare_4 : decode cX4_prepare 4 = .ok (.aload_n 1, 1) := by decide +kernel
theorem dX4_prepare_5 : decode cX4_prepare 5 = .ok (.iload_n 2, 1) := by decide +kernel
theorem dX4_prepare_6 : decode cX4_prepare 6 = .ok (.iload_n 3, 1) := by decide +kernel
theorem dX4_prepare_7 : decode cX4_prepare 7 = .ok (.invokevirtual 70, 3) := by decide +kernel
theorem dX4_prepare_10 : decode cX4_prepare 10 = .ok (.ifCond .ne 5, 3) := by decide +kernel
theorem dX4_prepare_13 : decode cX4_prepare 13 = .ok (.iconst 0, 1) := by decide +kernel
theorem dX4_prepare_14 : decode cX4_prepare 14 = .ok (.ireturn, 1) := by decide +kernel
theorem dX4_prepare_15 : decode cX4_prepare 15 = .ok (.aload_n 0, 1) := by decide +kernel
theorem dX4_prepare_16 : decode cX4_prepare 16 = .ok (.aload_n 1, 1) := by decide +kernel
theorem dX4_prepare_17 : decode cX4_prepare 17 = .ok (.getfield 59, 3) := by decide +kernel
theorem dX4_prepare_20 : decode cX4_prepare 20 = .ok (.iconst 4, 1) := by decide +kernel
theorem dX4_prepare_21 : decode cX4_prepare 21 = .ok (.iaload, 1) := by decide +kernel
theorem dX4_prepare_22 : decode cX4_prepare 22 = .ok (.putfield 74, 3) := by decide +kernel
theorem dX4_prepare_25 : decode cX4_prepare 25 = .ok (.aload_n 0, 1) := by decide +kernel
theorem dX4_prepare_26 : decode cX4_prepare 26 = .ok (.aload_n 1, 1) := by decide +kernel
theorem dX4_prepare_27 : decode cX4_prepare 27 = .ok (.getfield 59, 3) := by decide +kernel
theorem dX4_prepare_30 : decode cX4_prepare 30 = .ok (.iconst 5, 1) := by decide +kernel
theorem dX4_prepare_31 : decode cX4_prepare 31 = .ok (.iaload, 1) := by decide +kernel
theorem dX4_prepare_32 : decode cX4_prepare 32 = .ok (.putfield 77, 3) := by decide +kernel
theorem dX4_prepare_35 : decode cX4_prepare 35 = .ok (.aload_n 0, 1) := by decide +kernel
theorem dX4_prepare_36 : decode cX4_prepare 36 = .ok (.aload_n 1, 1) := by decide +kernel
theorem dX4_prepare_37 : decode cX4_prepare 37 = .ok (.getfield 59, 3) := by decide +kernel
theorem dX4_prepare_40 : decode cX4_prepare 40 = .ok (.bipush 6, 2) := by decide +kernel
theorem dX4_prepare_42 : decode cX4_prepare 42 = .ok (.iaload, 1) := by decide +kernel
theorem dX4_prepare_43 : decode cX4_prepare 43 = .ok (.putfield 80, 3) := by decide +kernel
theorem dX4_prepare_46 : decode cX4_prepare 46 = .ok (.aload_n 0, 1) := by decide +kernel
theorem dX4_prepare_47 : decode cX4_prepare 47 = .ok (.iload 4, 2) := by decide +kernel
theorem dX4_prepare_49 : decode cX4_prepare 49 = .ok (.putfield 83, 3) := by decide +kernel
theorem dX4_prepare_52 : decode cX4_prepare 52 = .ok (.iconst 0, 1) := by decide +kernel
theorem dX4_prepare_53 : decode cX4_prepare 53 = .ok (.istore 5, 2) := by decide +kernel
theorem dX4_prepare_55 : decode cX4_prepare 55 = .ok (.iload 5, 2) := by decide +kernel
theorem dX4_prepare_57 : decode cX4_prepare 57 = .ok (.aload_n 0, 1) := by decide +kernel
theorem dX4_prepare_58 : decode cX4_prepare 58 = .ok (.getfield 21, 3) := by decide +kernel
theorem dX4_prepare_61 : decode cX4_prepare 61 = .ok (.getfield 86, 3) := by decide +kernel
theorem dX4_prepare_64 : decode cX4_prepare 64 = .ok (.if_icmp .ge 30, 3) := by decide +kernel
theorem dX4_prepare_67 : decode cX4_prepare 67 = .ok (.aload_n 0, 1) := by decide +kernel
theorem dX4_prepare_68 : decode cX4_prepare 68 = .ok (.getfield 12, 3) := by decide +kernel
theorem dX4_prepare_71 : decode cX4_prepare 71 = .ok (.aload_n 1, 1) := by decide +kernel
theorem dX4_prepare_72 : decode cX4_prepare 72 = .ok (.getfield 89, 3) := by decide +kernel
theorem dX4_prepare_75 : decode cX4_prepare 75 = .ok (.aload_n 0, 1) := by decide +kernel
theorem dX4_prepare_76 : decode cX4_prepare 76 = .ok (.getfield 21, 3) := by decide +kernel
theorem dX4_prepare_79 : decode cX4_prepare 79 = .ok (.getfield 93, 3) := by decide +kernel
theorem dX4_prepare_82 : decode cX4_prepare 82 = .ok (.iload 5, 2) := by decide +kernel
theorem dX4_prepare_84 : decode cX4_prepare 84 = .ok (.iaload, 1) := by decide +kernel
theorem dX4_prepare_85 : decode cX4_prepare 85 = .ok (.invokevirtual 96, 3) := by decide +kernel
theorem dX4_prepare_88 : decode cX4_prepare 88 = .ok (.iinc 5 1, 3) := by decide +kernel
theorem dX4_prepare_91 : decode cX4_prepare 91 = .ok (.goto (-36), 3) := by decide +kernel
theorem dX4_prepare_94 : decode cX4_prepare 94 = .ok (.aload_n 0, 1) := by decide +kernel
theorem dX4_prepare_95 : decode cX4_prepare 95 = .ok (.invokevirtual 100, 3) := by decide +kernel
theorem dX4_prepare_98 : decode cX4_prepare 98 = .ok (.iconst 1, 1) := by decide +kernel
theorem dX4_prepare_99 : decode cX4_prepare 99 = .ok (.ireturn, 1) := by decide +kernel
theorem dX4_run_0 : decode cX4_run 0 = .ok (.aload_n 0, 1) := by decide +kernel
theorem dX4_run_1 : decode cX4_run 1 = .ok (.iconst 0, 1) := by decide +kernel
theorem dX4_run_2 : decode cX4_run 2 = .ok (.putfield 55, 3) := by decide +kernel
theorem dX4_run_5 : decode cX4_run 5 = .ok (.aload_n 0, 1) := by decide +kernel
theorem dX4_run_6 : decode cX4_run 6 = .ok (.iload_n 1, 1) := by decide +kernel
theorem dX4_run_7 : decode cX4_run 7 = .ok (.putfield 103, 3) := by decide +kernel
theorem dX4_run_10 : decode cX4_run 10 = .ok (.aload_n 0, 1) := by decide +kernel
theorem dX4_run_11 : decode cX4_run 11 = .ok (.iload_n 2, 1) := by decide +kernel
theorem dX4_run_12 : decode cX4_run 12 = .ok (.putfield 106, 3) := by decide +kernel
theorem dX4_run_15 : decode cX4_run 15 = .ok (.aload_n 0, 1) := by decide +kernel
theorem dX4_run_16 : decode cX4_run 16 = .ok (.getfield 29, 3) := by decide +kernel
theorem dX4_run_19 : decode cX4_run 19 = .ok (.iconst 0, 1) := by decide +kernel
theorem dX4_run_20 : decode cX4_run 20 = .ok (.iconst 0, 1) := by decide +kernel
theorem dX4_run_21 : decode cX4_run 21 = .ok (.iastore, 1) := by decide +kernel
theorem dX4_run_22 : decode cX4_run 22 = .ok (.aload_n 0, 1) := by decide +kernel
theorem dX4_run_23 : decode cX4_run 23 = .ok (.iconst 0, 1) := by decide +kernel
theorem dX4_run_24 : decode cX4_run 24 = .ok (.aload_n 0, 1) := by decide +kernel
theorem dX4_run_25 : decode cX4_run 25 = .ok (.getfield 74, 3) := by decide +kernel
theorem dX4_run_28 : decode cX4_run 28 = .ok (.invokevirtual 110, 3) := by decide +kernel
theorem dX4_run_31 : decode cX4_run 31 = .ok (.iconst (-1), 1) := by decide +kernel
theorem dX4_run_32 : decode cX4_run 32 = .ok (.if_icmp .eq 13, 3) := by decide +kernel
theorem dX4_run_35 : decode cX4_run 35 = .ok (.aload_n 0, 1) := by decide +kernel
theorem dX4_run_36 : decode cX4_run 36 = .ok (.iconst 0, 1) := by decide +kernel
theorem dX4_run_37 : decode cX4_run 37 = .ok (.aload_n 0, 1) := by decide +kernel
theorem dX4_run_38 : decode cX4_run 38 = .ok (.getfield 74, 3) := by decide +kernel
theorem dX4_run_41 : decode cX4_run 41 = .ok (.iconst 0, 1) := by decide +kernel
theorem dX4_run_42 : decode cX4_run 42 = .ok (.invokevirtual 114, 3) := by decide +kernel
theorem dX4_run_45 : decode cX4_run 45 = .ok (.return_, 1) := by decide +kernel
theorem dX4_findLeastCosts_0 : decode cX4_findLeastCosts 0 = .ok (.aload_n 0, 1) := by decide +kernel
theorem dX4_findLeastCosts_1 : decode cX4_findLeastCosts 1 = .ok (.getfield 21, 3) := by decide +kernel
theorem dX4_findLeastCosts_4 : decode cX4_findLeastCosts 4 = .ok (.getfield 86, 3) := by decide +kernel
theorem dX4_findLeastCosts_7 : decode cX4_findLeastCosts 7 = .ok (.iconst 1, 1) := by decide +kernel
theorem dX4_findLeastCosts_8 : decode cX4_findLeastCosts 8 = .ok (.isub, 1) := by decide +kernel
theorem dX4_findLeastCosts_9 : decode cX4_findLeastCosts 9 = .ok (.istore_n 1, 1) := by decide +kernel
theorem dX4_findLeastCosts_10 : decode cX4_findLeastCosts 10 = .ok (.iload_n 1, 1) := by decide +kernel
theorem dX4_findLeastCosts_11 : decode cX4_findLeastCosts 11 = .ok (.ifCond .lt 43, 3) := by decide +kernel
theorem dX4_findLeastCosts_14 : decode cX4_findLeastCosts 14 = .ok (.aload_n 0, 1) := by decide +kernel
theorem dX4_findLeastCosts_15 : decode cX4_findLeastCosts 15 = .ok (.getfield 74, 3) := by decide +kernel
theorem dX4_findLeastCosts_18 : decode cX4_findLeastCosts 18 = .ok (.istore_n 2, 1) := by decide +kernel
theorem dX4_findLeastCosts_19 : decode cX4_findLeastCosts 19 = .ok (.iload_n 2, 1) := by decide +kernel
theorem dX4_findLeastCosts_20 : decode cX4_findLeastCosts 20 = .ok (.bipush 36, 2) := by decide +kernel
theorem dX4_findLeastCosts_22 : decode cX4_findLeastCosts 22 = .ok (.if_icmp .ge 26, 3) := by decide +kernel
theorem dX4_findLeastCosts_25 : decode cX4_findLeastCosts 25 = .ok (.aload_n 0, 1) := by decide +kernel
theorem dX4_findLeastCosts_26 : decode cX4_findLeastCosts 26 = .ok (.getfield 25, 3) := by decide +kernel
theorem dX4_findLeastCosts_29 : decode cX4_findLeastCosts 29 = .ok (.iload_n 1, 1) := by decide +kernel
theorem dX4_findLeastCosts_30 : decode cX4_findLeastCosts 30 = .ok (.bipush 36, 2) := by decide +kernel
theorem dX4_findLeastCosts_32 : decode cX4_findLeastCosts 32 = .ok (.imul, 1) := by decide +kernel
theorem dX4_findLeastCosts_33 : decode cX4_findLeastCosts 33 = .ok (.iload_n 2, 1) := by decide +kernel
theorem dX4_findLeastCosts_34 : decode cX4_findLeastCosts 34 = .ok (.iadd, 1) := by decide +kernel
theorem dX4_findLeastCosts_35 : decode cX4_findLeastCosts 35 = .ok (.aload_n 0, 1) := by decide +kernel
theorem dX4_findLeastCosts_36 : decode cX4_findLeastCosts 36 = .ok (.iload_n 1, 1) := by decide +kernel
theorem dX4_findLeastCosts_37 : decode cX4_findLeastCosts 37 = .ok (.iload_n 2, 1) := by decide +kernel
theorem dX4_findLeastCosts_38 : decode cX4_findLeastCosts 38 = .ok (.invokevirtual 118, 3) := by decide +kernel
theorem dX4_findLeastCosts_41 : decode cX4_findLeastCosts 41 = .ok (.iastore, 1) := by decide +kernel
theorem dX4_findLeastCosts_42 : decode cX4_findLeastCosts 42 = .ok (.iinc 2 1, 3) := by decide +kernel
theorem dX4_findLeastCosts_45 : decode cX4_findLeastCosts 45 = .ok (.goto (-26), 3) := by decide +kernel
theorem dX4_findLeastCosts_48 : decode cX4_findLeastCosts 48 = .ok (.iinc 1 (-1), 3) := by decide +kernel
theorem dX4_findLeastCosts_51 : decode cX4_findLeastCosts 51 = .ok (.goto (-41), 3) := by decide +kernel
theorem dX4_findLeastCosts_54 : decode cX4_findLeastCosts 54 = .ok (.return_, 1) := by decide +kernel
theorem dX4_findLeastCost_0 : decode cX4_findLeastCost 0 = .ok (.iconst (-1), 1) := by decide +kernel
theorem dX4_findLeastCost_1 : decode cX4_findLeastCost 1 = .ok (.istore_n 3, 1) := by decide +kernel
theorem dX4_findLeastCost_2 : decode cX4_findLeastCost 2 = .ok (.iload_n 1, 1) := by decide +kernel
theorem dX4_findLeastCost_3 : decode cX4_findLeastCost 3 = .ok (.iconst 1, 1) := by decide +kernel
theorem dX4_findLeastCost_4 : decode cX4_findLeastCost 4 = .ok (.iadd, 1) := by decide +kernel
theorem dX4_findLeastCost_5 : decode cX4_findLeastCost 5 = .ok (.istore 4, 2) := by decide +kernel
theorem dX4_findLeastCost_7 : decode cX4_findLeastCost 7 = .ok (.iload 4, 2) := by decide +kernel
theorem dX4_findLeastCost_9 : decode cX4_findLeastCost 9 = .ok (.aload_n 0, 1) := by decide +kernel
theorem dX4_findLeastCost_10 : decode cX4_findLeastCost 10 = .ok (.getfield 21, 3) := by decide +kernel
theorem dX4_findLeastCost_13 : decode cX4_findLeastCost 13 = .ok (.getfield 121, 3) := by decide +kernel
theorem dX4_findLeastCost_16 : decode cX4_findLeastCost 16 = .ok (.iload_n 1, 1) := by decide +kernel
theorem dX4_findLeastCost_17 : decode cX4_findLeastCost 17 = .ok (.iaload, 1) := by decide +kernel
theorem dX4_findLeastCost_18 : decode cX4_findLeastCost 18 = .ok (.if_icmp .gt 74, 3) := by decide +kernel
theorem dX4_findLeastCost_21 : decode cX4_findLeastCost 21 = .ok (.aload_n 0, 1) := by decide +kernel
theorem dX4_findLeastCost_22 : decode cX4_findLeastCost 22 = .ok (.iload_n 1, 1) := by decide +kernel
theorem dX4_findLeastCost_23 : decode cX4_findLeastCost 23 = .ok (.iload 4, 2) := by decide +kernel
theorem dX4_findLeastCost_25 : decode cX4_findLeastCost 25 = .ok (.iload_n 2, 1) := by decide +kernel
theorem dX4_findLeastCost_26 : decode cX4_findLeastCost 26 = .ok (.invokevirtual 124, 3) := by decide +kernel
theorem dX4_findLeastCost_29 : decode cX4_findLeastCost 29 = .ok (.istore 5, 2) := by decide +kernel
theorem dX4_findLeastCost_31 : decode cX4_findLeastCost 31 = .ok (.iload 5, 2) := by decide +kernel
theorem dX4_findLeastCost_33 : decode cX4_findLeastCost 33 = .ok (.iconst (-1), 1) := by decide +kernel
theorem dX4_findLeastCost_34 : decode cX4_findLeastCost 34 = .ok (.if_icmp .ne 6, 3) := by decide +kernel
theorem dX4_findLeastCost_37 : decode cX4_findLeastCost 37 = .ok (.goto 55, 3) := by decide +kernel
theorem dX4_findLeastCost_40 : decode cX4_findLeastCost 40 = .ok (.aload_n 0, 1) := by decide +kernel
theorem dX4_findLeastCost_41 : decode cX4_findLeastCost 41 = .ok (.iload 4, 2) := by decide +kernel
theorem dX4_findLeastCost_43 : decode cX4_findLeastCost 43 = .ok (.aload_n 0, 1) := by decide +kernel
theorem dX4_findLeastCost_44 : decode cX4_findLeastCost 44 = .ok (.iload_n 1, 1) := by decide +kernel
theorem dX4_findLeastCost_45 : decode cX4_findLeastCost 45 = .ok (.iload 4, 2) := by decide +kernel
theorem dX4_findLeastCost_47 : decode cX4_findLeastCost 47 = .ok (.iload_n 2, 1) := by decide +kernel
theorem dX4_findLeastCost_48 : decode cX4_findLeastCost 48 = .ok (.invokevirtual 128, 3) := by decide +kernel
theorem dX4_findLeastCost_51 : decode cX4_findLeastCost 51 = .ok (.invokevirtual 110, 3) := by decide +kernel
theorem dX4_findLeastCost_54 : decode cX4_findLeastCost 54 = .ok (.istore 6, 2) := by decide +kernel
theorem dX4_findLeastCost_56 : decode cX4_findLeastCost 56 = .ok (.iload 5, 2) := by decide +kernel
theorem dX4_findLeastCost_58 : decode cX4_findLeastCost 58 = .ok (.iload 5, 2) := by decide +kernel
theorem dX4_findLeastCost_60 : decode cX4_findLeastCost 60 = .ok (.imul, 1) := by decide +kernel
theorem dX4_findLeastCost_61 : decode cX4_findLeastCost 61 = .ok (.iload 6, 2) := by decide +kernel
theorem dX4_findLeastCost_63 : decode cX4_findLeastCost 63 = .ok (.iadd, 1) := by decide +kernel
theorem dX4_findLeastCost_64 : decode cX4_findLeastCost 64 = .ok (.istore 7, 2) := by decide +kernel
theorem dX4_findLeastCost_66 : decode cX4_findLeastCost 66 = .ok (.iload 6, 2) := by decide +kernel
theorem dX4_findLeastCost_68 : decode cX4_findLeastCost 68 = .ok (.iconst (-1), 1) := by decide +kernel
theorem dX4_findLeastCost_69 : decode cX4_findLeastCost 69 = .ok (.if_icmp .eq 17, 3) := by decide +kernel
theorem dX4_findLeastCost_72 : decode cX4_findLeastCost 72 = .ok (.iload_n 3, 1) := by decide +kernel
theorem dX4_findLeastCost_73 : decode cX4_findLeastCost 73 = .ok (.iconst (-1), 1) := by decide +kernel
theorem dX4_findLeastCost_74 : decode cX4_findLeastCost 74 = .ok (.if_icmp .eq 9, 3) := by decide +kernel
theorem dX4_findLeastCost_77 : decode cX4_findLeastCost 77 = .ok (.iload 7, 2) := by decide +kernel
theorem dX4_findLeastCost_79 : decode cX4_findLeastCost 79 = .ok (.iload_n 3, 1) := by decide +kernel
theorem dX4_findLeastCost_80 : decode cX4_findLeastCost 80 = .ok (.if_icmp .ge 6, 3) := by decide +kernel
theorem dX4_findLeastCost_83 : decode cX4_findLeastCost 83 = .ok (.iload 7, 2) := by decide +kernel
theorem dX4_findLeastCost_85 : decode cX4_findLeastCost 85 = .ok (.istore_n 3, 1) := by decide +kernel
theorem dX4_findLeastCost_86 : decode cX4_findLeastCost 86 = .ok (.iinc 4 1, 3) := by decide +kernel
theorem dX4_findLeastCost_89 : decode cX4_findLeastCost 89 = .ok (.goto (-82), 3) := by decide +kernel
theorem dX4_findLeastCost_92 : decode cX4_findLeastCost 92 = .ok (.iload_n 3, 1) := by decide +kernel
theorem dX4_findLeastCost_93 : decode cX4_findLeastCost 93 = .ok (.ireturn, 1) := by decide +kernel
theorem dX4_leastCostFrom_0 : decode cX4_leastCostFrom 0 = .ok (.iload_n 1, 1) := by decide +kernel
theorem dX4_leastCostFrom_1 : decode cX4_leastCostFrom 1 = .ok (.aload_n 0, 1) := by decide +kernel
theorem dX4_leastCostFrom_2 : decode cX4_leastCostFrom 2 = .ok (.getfield 21, 3) := by decide +kernel
theorem dX4_leastCostFrom_5 : decode cX4_leastCostFrom 5 = .ok (.getfield 86, 3) := by decide +kernel
theorem dX4_leastCostFrom_8 : decode cX4_leastCostFrom 8 = .ok (.if_icmp .lt 5, 3) := by decide +kernel
theorem dX4_leastCostFrom_11 : decode cX4_leastCostFrom 11 = .ok (.iconst 0, 1) := by decide +kernel
theorem dX4_leastCostFrom_12 : decode cX4_leastCostFrom 12 = .ok (.ireturn, 1) := by decide +kernel
theorem dX4_leastCostFrom_13 : decode cX4_leastCostFrom 13 = .ok (.iload_n 2, 1) := by decide +kernel
theorem dX4_leastCostFrom_14 : decode cX4_leastCostFrom 14 = .ok (.bipush 36, 2) := by decide +kernel
theorem dX4_leastCostFrom_16 : decode cX4_leastCostFrom 16 = .ok (.if_icmp .ge 17, 3) := by decide +kernel
theorem dX4_leastCostFrom_19 : decode cX4_leastCostFrom 19 = .ok (.aload_n 0, 1) := by decide +kernel
theorem dX4_leastCostFrom_20 : decode cX4_leastCostFrom 20 = .ok (.getfield 25, 3) := by decide +kernel
theorem dX4_leastCostFrom_23 : decode cX4_leastCostFrom 23 = .ok (.iload_n 1, 1) := by decide +kernel
theorem dX4_leastCostFrom_24 : decode cX4_leastCostFrom 24 = .ok (.bipush 36, 2) := by decide +kernel
theorem dX4_leastCostFrom_26 : decode cX4_leastCostFrom 26 = .ok (.imul, 1) := by decide +kernel
theorem dX4_leastCostFrom_27 : decode cX4_leastCostFrom 27 = .ok (.iload_n 2, 1) := by decide +kernel
theorem dX4_leastCostFrom_28 : decode cX4_leastCostFrom 28 = .ok (.iadd, 1) := by decide +kernel
theorem dX4_leastCostFrom_29 : decode cX4_leastCostFrom 29 = .ok (.iaload, 1) := by decide +kernel
theorem dX4_leastCostFrom_30 : decode cX4_leastCostFrom 30 = .ok (.goto 4, 3) := by decide +kernel
theorem dX4_leastCostFrom_33 : decode cX4_leastCostFrom 33 = .ok (.iconst (-1), 1) := by decide +kernel
theorem dX4_leastCostFrom_34 : decode cX4_leastCostFrom 34 = .ok (.ireturn, 1) := by decide +kernel
theorem dX4_rowBehind_0 : decode cX4_rowBehind 0 = .ok (.iload_n 3, 1) := by decide +kernel
theorem dX4_rowBehind_1 : decode cX4_rowBehind 1 = .ok (.aload_n 0, 1) := by decide +kernel
theorem dX4_rowBehind_2 : decode cX4_rowBehind 2 = .ok (.getfield 21, 3) := by decide +kernel
theorem dX4_rowBehind_5 : decode cX4_rowBehind 5 = .ok (.iload_n 1, 1) := by decide +kernel
theorem dX4_rowBehind_6 : decode cX4_rowBehind 6 = .ok (.iload_n 2, 1) := by decide +kernel
theorem dX4_rowBehind_7 : decode cX4_rowBehind 7 = .ok (.invokevirtual 131, 3) := by decide +kernel
theorem dX4_rowBehind_10 : decode cX4_rowBehind 10 = .ok (.iadd, 1) := by decide +kernel
theorem dX4_rowBehind_11 : decode cX4_rowBehind 11 = .ok (.aload_n 0, 1) := by decide +kernel
theorem dX4_rowBehind_12 : decode cX4_rowBehind 12 = .ok (.getfield 77, 3) := by decide +kernel
theorem dX4_rowBehind_15 : decode cX4_rowBehind 15 = .ok (.iadd, 1) := by decide +kernel
theorem dX4_rowBehind_16 : decode cX4_rowBehind 16 = .ok (.ireturn, 1) := by decide +kernel
theorem dX4_slackOf_0 : decode cX4_slackOf 0 = .ok (.aload_n 0, 1) := by decide +kernel
theorem dX4_slackOf_1 : decode cX4_slackOf 1 = .ok (.getfield 21, 3) := by decide +kernel
theorem dX4_slackOf_4 : decode cX4_slackOf 4 = .ok (.iload_n 1, 1) := by decide +kernel
theorem dX4_slackOf_5 : decode cX4_slackOf 5 = .ok (.iload_n 2, 1) := by decide +kernel
theorem dX4_slackOf_6 : decode cX4_slackOf 6 = .ok (.invokevirtual 131, 3) := by decide +kernel
theorem dX4_slackOf_9 : decode cX4_slackOf 9 = .ok (.istore 4, 2) := by decide +kernel
theorem dX4_slackOf_11 : decode cX4_slackOf 11 = .ok (.iload_n 3, 1) := by decide +kernel
theorem dX4_slackOf_12 : decode cX4_slackOf 12 = .ok (.iload 4, 2) := by decide +kernel
theorem dX4_slackOf_14 : decode cX4_slackOf 14 = .ok (.iadd, 1) := by decide +kernel
theorem dX4_slackOf_15 : decode cX4_slackOf 15 = .ok (.bipush 36, 2) := by decide +kernel
theorem dX4_slackOf_17 : decode cX4_slackOf 17 = .ok (.if_icmp .le 5, 3) := by decide +kernel
theorem dX4_slackOf_20 : decode cX4_slackOf 20 = .ok (.iconst (-1), 1) := by decide +kernel
theorem dX4_slackOf_21 : decode cX4_slackOf 21 = .ok (.ireturn, 1) := by decide +kernel
theorem dX4_slackOf_22 : decode cX4_slackOf 22 = .ok (.aload_n 0, 1) := by decide +kernel
theorem dX4_slackOf_23 : decode cX4_slackOf 23 = .ok (.getfield 12, 3) := by decide +kernel
theorem dX4_slackOf_26 : decode cX4_slackOf 26 = .ok (.iload_n 3, 1) := by decide +kernel
theorem dX4_slackOf_27 : decode cX4_slackOf 27 = .ok (.iload 4, 2) := by decide +kernel
theorem dX4_slackOf_29 : decode cX4_slackOf 29 = .ok (.invokevirtual 134, 3) := by decide +kernel
theorem dX4_slackOf_32 : decode cX4_slackOf 32 = .ok (.aload_n 0, 1) := by decide +kernel
theorem dX4_slackOf_33 : decode cX4_slackOf 33 = .ok (.getfield 21, 3) := by decide +kernel
theorem dX4_slackOf_36 : decode cX4_slackOf 36 = .ok (.iload_n 1, 1) := by decide +kernel
theorem dX4_slackOf_37 : decode cX4_slackOf 37 = .ok (.iload_n 2, 1) := by decide +kernel
theorem dX4_slackOf_38 : decode cX4_slackOf 38 = .ok (.invokevirtual 137, 3) := by decide +kernel
theorem dX4_slackOf_41 : decode cX4_slackOf 41 = .ok (.isub, 1) := by decide +kernel
theorem dX4_slackOf_42 : decode cX4_slackOf 42 = .ok (.istore 5, 2) := by decide +kernel
theorem dX4_slackOf_44 : decode cX4_slackOf 44 = .ok (.iload 5, 2) := by decide +kernel
theorem dX4_slackOf_46 : decode cX4_slackOf 46 = .ok (.ifCond .lt 8, 3) := by decide +kernel
theorem dX4_slackOf_49 : decode cX4_slackOf 49 = .ok (.iload 5, 2) := by decide +kernel
theorem dX4_slackOf_51 : decode cX4_slackOf 51 = .ok (.goto 4, 3) := by decide +kernel
theorem dX4_slackOf_54 : decode cX4_slackOf 54 = .ok (.iconst (-1), 1) := by decide +kernel
theorem dX4_slackOf_55 : decode cX4_slackOf 55 = .ok (.ireturn, 1) := by decide +kernel
theorem dX4_layFrom_0 : decode cX4_layFrom 0 = .ok (.aload_n 0, 1) := by decide +kernel
theorem dX4_layFrom_1 : decode cX4_layFrom 1 = .ok (.getfield 29, 3) := by decide +kernel
theorem dX4_layFrom_4 : decode cX4_layFrom 4 = .ok (.iload_n 1, 1) := by decide +kernel
theorem dX4_layFrom_5 : decode cX4_layFrom 5 = .ok (.iaload, 1) := by decide +kernel
theorem dX4_layFrom_6 : decode cX4_layFrom 6 = .ok (.istore 4, 2) := by decide +kernel
theorem dX4_layFrom_8 : decode cX4_layFrom 8 = .ok (.iload 4, 2) := by decide +kernel
theorem dX4_layFrom_10 : decode cX4_layFrom 10 = .ok (.aload_n 0, 1) := by decide +kernel
theorem dX4_layFrom_11 : decode cX4_layFrom 11 = .ok (.getfield 21, 3) := by decide +kernel
theorem dX4_layFrom_14 : decode cX4_layFrom 14 = .ok (.getfield 86, 3) := by decide +kernel
theorem dX4_layFrom_17 : decode cX4_layFrom 17 = .ok (.if_icmp .lt 10, 3) := by decide +kernel
theorem dX4_layFrom_20 : decode cX4_layFrom 20 = .ok (.aload_n 0, 1) := by decide +kernel
theorem dX4_layFrom_21 : decode cX4_layFrom 21 = .ok (.iload_n 1, 1) := by decide +kernel
theorem dX4_layFrom_22 : decode cX4_layFrom 22 = .ok (.iload_n 3, 1) := by decide +kernel
theorem dX4_layFrom_23 : decode cX4_layFrom 23 = .ok (.invokevirtual 140, 3) := by decide +kernel
theorem dX4_layFrom_26 : decode cX4_layFrom 26 = .ok (.return_, 1) := by decide +kernel
theorem dX4_layFrom_27 : decode cX4_layFrom 27 = .ok (.iload_n 1, 1) := by decide +kernel
theorem dX4_layFrom_28 : decode cX4_layFrom 28 = .ok (.bipush 14, 2) := by decide +kernel
theorem dX4_layFrom_30 : decode cX4_layFrom 30 = .ok (.if_icmp .lt 4, 3) := by decide +kernel
theorem dX4_layFrom_33 : decode cX4_layFrom 33 = .ok (.return_, 1) := by decide +kernel
theorem dX4_layFrom_34 : decode cX4_layFrom 34 = .ok (.iload 4, 2) := by decide +kernel
theorem dX4_layFrom_36 : decode cX4_layFrom 36 = .ok (.iconst 1, 1) := by decide +kernel
theorem dX4_layFrom_37 : decode cX4_layFrom 37 = .ok (.iadd, 1) := by decide +kernel
theorem dX4_layFrom_38 : decode cX4_layFrom 38 = .ok (.istore 5, 2) := by decide +kernel
theorem dX4_layFrom_40 : decode cX4_layFrom 40 = .ok (.iload 5, 2) := by decide +kernel
theorem dX4_layFrom_42 : decode cX4_layFrom 42 = .ok (.aload_n 0, 1) := by decide +kernel
theorem dX4_layFrom_43 : decode cX4_layFrom 43 = .ok (.getfield 21, 3) := by decide +kernel
theorem dX4_layFrom_46 : decode cX4_layFrom 46 = .ok (.getfield 121, 3) := by decide +kernel
theorem dX4_layFrom_49 : decode cX4_layFrom 49 = .ok (.iload 4, 2) := by decide +kernel
theorem dX4_layFrom_51 : decode cX4_layFrom 51 = .ok (.iaload, 1) := by decide +kernel
theorem dX4_layFrom_52 : decode cX4_layFrom 52 = .ok (.if_icmp .gt 65, 3) := by decide +kernel
theorem dX4_layFrom_55 : decode cX4_layFrom 55 = .ok (.aload_n 0, 1) := by decide +kernel
theorem dX4_layFrom_56 : decode cX4_layFrom 56 = .ok (.getfield 55, 3) := by decide +kernel
theorem dX4_layFrom_59 : decode cX4_layFrom 59 = .ok (.aload_n 0, 1) := by decide +kernel
theorem dX4_layFrom_60 : decode cX4_layFrom 60 = .ok (.getfield 103, 3) := by decide +kernel
theorem dX4_layFrom_63 : decode cX4_layFrom 63 = .ok (.if_icmp .ge 54, 3) := by decide +kernel
theorem dX4_layFrom_66 : decode cX4_layFrom 66 = .ok (.aload_n 0, 1) := by decide +kernel
theorem dX4_layFrom_67 : decode cX4_layFrom 67 = .ok (.iload 4, 2) := by decide +kernel
theorem dX4_layFrom_69 : decode cX4_layFrom 69 = .ok (.iload 5, 2) := by decide +kernel
theorem dX4_layFrom_71 : decode cX4_layFrom 71 = .ok (.iload_n 2, 1) := by decide +kernel
theorem dX4_layFrom_72 : decode cX4_layFrom 72 = .ok (.invokevirtual 124, 3) := by decide +kernel
theorem dX4_layFrom_75 : decode cX4_layFrom 75 = .ok (.istore 6, 2) := by decide +kernel
theorem dX4_layFrom_77 : decode cX4_layFrom 77 = .ok (.iload 6, 2) := by decide +kernel
theorem dX4_layFrom_79 : decode cX4_layFrom 79 = .ok (.iconst (-1), 1) := by decide +kernel
theorem dX4_layFrom_80 : decode cX4_layFrom 80 = .ok (.if_icmp .ne 6, 3) := by decide +kernel
theorem dX4_layFrom_83 : decode cX4_layFrom 83 = .ok (.goto 34, 3) := by decide +kernel
theorem dX4_layFrom_86 : decode cX4_layFrom 86 = .ok (.aload_n 0, 1) := by decide +kernel
theorem dX4_layFrom_87 : decode cX4_layFrom 87 = .ok (.getfield 29, 3) := by decide +kernel
theorem dX4_layFrom_90 : decode cX4_layFrom 90 = .ok (.iload_n 1, 1) := by decide +kernel
theorem dX4_layFrom_91 : decode cX4_layFrom 91 = .ok (.iconst 1, 1) := by decide +kernel
theorem dX4_layFrom_92 : decode cX4_layFrom 92 = .ok (.iadd, 1) := by decide +kernel
theorem dX4_layFrom_93 : decode cX4_layFrom 93 = .ok (.iload 5, 2) := by decide +kernel
theorem dX4_layFrom_95 : decode cX4_layFrom 95 = .ok (.iastore, 1) := by decide +kernel
theorem dX4_layFrom_96 : decode cX4_layFrom 96 = .ok (.aload_n 0, 1) := by decide +kernel
theorem dX4_layFrom_97 : decode cX4_layFrom 97 = .ok (.iload_n 1, 1) := by decide +kernel
theorem dX4_layFrom_98 : decode cX4_layFrom 98 = .ok (.iload_n 2, 1) := by decide +kernel
theorem dX4_layFrom_99 : decode cX4_layFrom 99 = .ok (.iload 6, 2) := by decide +kernel
theorem dX4_layFrom_101 : decode cX4_layFrom 101 = .ok (.iload_n 3, 1) := by decide +kernel
theorem dX4_layFrom_102 : decode cX4_layFrom 102 = .ok (.iload 6, 2) := by decide +kernel
theorem dX4_layFrom_104 : decode cX4_layFrom 104 = .ok (.iload 6, 2) := by decide +kernel
theorem dX4_layFrom_106 : decode cX4_layFrom 106 = .ok (.imul, 1) := by decide +kernel
theorem dX4_layFrom_107 : decode cX4_layFrom 107 = .ok (.iadd, 1) := by decide +kernel
theorem dX4_layFrom_108 : decode cX4_layFrom 108 = .ok (.invokevirtual 144, 3) := by decide +kernel
theorem dX4_layFrom_111 : decode cX4_layFrom 111 = .ok (.iinc 5 1, 3) := by decide +kernel
theorem dX4_layFrom_114 : decode cX4_layFrom 114 = .ok (.goto (-74), 3) := by decide +kernel
theorem dX4_layFrom_117 : decode cX4_layFrom 117 = .ok (.return_, 1) := by decide +kernel
theorem dX4_tryLine_0 : decode cX4_tryLine 0 = .ok (.aload_n 0, 1) := by decide +kernel
theorem dX4_tryLine_1 : decode cX4_tryLine 1 = .ok (.getfield 29, 3) := by decide +kernel
theorem dX4_tryLine_4 : decode cX4_tryLine 4 = .ok (.iload_n 1, 1) := by decide +kernel
theorem dX4_tryLine_5 : decode cX4_tryLine 5 = .ok (.iaload, 1) := by decide +kernel
theorem dX4_tryLine_6 : decode cX4_tryLine 6 = .ok (.istore 5, 2) := by decide +kernel
theorem dX4_tryLine_8 : decode cX4_tryLine 8 = .ok (.aload_n 0, 1) := by decide +kernel
theorem dX4_tryLine_9 : decode cX4_tryLine 9 = .ok (.getfield 29, 3) := by decide +kernel
theorem dX4_tryLine_12 : decode cX4_tryLine 12 = .ok (.iload_n 1, 1) := by decide +kernel
theorem dX4_tryLine_13 : decode cX4_tryLine 13 = .ok (.iconst 1, 1) := by decide +kernel
theorem dX4_tryLine_14 : decode cX4_tryLine 14 = .ok (.iadd, 1) := by decide +kernel
theorem dX4_tryLine_15 : decode cX4_tryLine 15 = .ok (.iaload, 1) := by decide +kernel
theorem dX4_tryLine_16 : decode cX4_tryLine 16 = .ok (.istore 6, 2) := by decide +kernel
theorem dX4_tryLine_18 : decode cX4_tryLine 18 = .ok (.aload_n 0, 1) := by decide +kernel
theorem dX4_tryLine_19 : decode cX4_tryLine 19 = .ok (.iload 5, 2) := by decide +kernel
theorem dX4_tryLine_21 : decode cX4_tryLine 21 = .ok (.iload 6, 2) := by decide +kernel
theorem dX4_tryLine_23 : decode cX4_tryLine 23 = .ok (.iload_n 2, 1) := by decide +kernel
theorem dX4_tryLine_24 : decode cX4_tryLine 24 = .ok (.invokevirtual 128, 3) := by decide +kernel
theorem dX4_tryLine_27 : decode cX4_tryLine 27 = .ok (.istore 7, 2) := by decide +kernel
theorem dX4_tryLine_29 : decode cX4_tryLine 29 = .ok (.aload_n 0, 1) := by decide +kernel
theorem dX4_tryLine_30 : decode cX4_tryLine 30 = .ok (.iload 6, 2) := by decide +kernel
theorem dX4_tryLine_32 : decode cX4_tryLine 32 = .ok (.iload 7, 2) := by decide +kernel
theorem dX4_tryLine_34 : decode cX4_tryLine 34 = .ok (.invokevirtual 110, 3) := by decide +kernel
theorem dX4_tryLine_37 : decode cX4_tryLine 37 = .ok (.istore 8, 2) := by decide +kernel
theorem dX4_tryLine_39 : decode cX4_tryLine 39 = .ok (.iload 8, 2) := by decide +kernel
theorem dX4_tryLine_41 : decode cX4_tryLine 41 = .ok (.iconst (-1), 1) := by decide +kernel
theorem dX4_tryLine_42 : decode cX4_tryLine 42 = .ok (.if_icmp .eq 29, 3) := by decide +kernel
theorem dX4_tryLine_45 : decode cX4_tryLine 45 = .ok (.aload_n 0, 1) := by decide +kernel
theorem dX4_tryLine_46 : decode cX4_tryLine 46 = .ok (.getfield 106, 3) := by decide +kernel
theorem dX4_tryLine_49 : decode cX4_tryLine 49 = .ok (.ifCond .eq 23, 3) := by decide +kernel
theorem dX4_tryLine_52 : decode cX4_tryLine 52 = .ok (.aload_n 0, 1) := by decide +kernel
theorem dX4_tryLine_53 : decode cX4_tryLine 53 = .ok (.getfield 55, 3) := by decide +kernel
theorem dX4_tryLine_56 : decode cX4_tryLine 56 = .ok (.ifCond .le 16, 3) := by decide +kernel
theorem dX4_tryLine_59 : decode cX4_tryLine 59 = .ok (.iload 4, 2) := by decide +kernel
theorem dX4_tryLine_61 : decode cX4_tryLine 61 = .ok (.iload 8, 2) := by decide +kernel
theorem dX4_tryLine_63 : decode cX4_tryLine 63 = .ok (.iadd, 1) := by decide +kernel
theorem dX4_tryLine_64 : decode cX4_tryLine 64 = .ok (.aload_n 0, 1) := by decide +kernel
theorem dX4_tryLine_65 : decode cX4_tryLine 65 = .ok (.getfield 67, 3) := by decide +kernel
theorem dX4_tryLine_68 : decode cX4_tryLine 68 = .ok (.if_icmp .lt 4, 3) := by decide +kernel
theorem dX4_tryLine_71 : decode cX4_tryLine 71 = .ok (.return_, 1) := by decide +kernel
theorem dX4_tryLine_72 : decode cX4_tryLine 72 = .ok (.aload_n 0, 1) := by decide +kernel
theorem dX4_tryLine_73 : decode cX4_tryLine 73 = .ok (.iload 5, 2) := by decide +kernel
theorem dX4_tryLine_75 : decode cX4_tryLine 75 = .ok (.iload 6, 2) := by decide +kernel
theorem dX4_tryLine_77 : decode cX4_tryLine 77 = .ok (.iload_n 2, 1) := by decide +kernel
theorem dX4_tryLine_78 : decode cX4_tryLine 78 = .ok (.iload_n 3, 1) := by decide +kernel
theorem dX4_tryLine_79 : decode cX4_tryLine 79 = .ok (.invokevirtual 148, 3) := by decide +kernel
theorem dX4_tryLine_82 : decode cX4_tryLine 82 = .ok (.aload_n 0, 1) := by decide +kernel
theorem dX4_tryLine_83 : decode cX4_tryLine 83 = .ok (.iload_n 1, 1) := by decide +kernel
theorem dX4_tryLine_84 : decode cX4_tryLine 84 = .ok (.invokevirtual 151, 3) := by decide +kernel
theorem dX4_tryLine_87 : decode cX4_tryLine 87 = .ok (.aload_n 0, 1) := by decide +kernel
theorem dX4_tryLine_88 : decode cX4_tryLine 88 = .ok (.getfield 83, 3) := by decide +kernel
theorem dX4_tryLine_91 : decode cX4_tryLine 91 = .ok (.if_icmp .gt 14, 3) := by decide +kernel
theorem dX4_tryLine_94 : decode cX4_tryLine 94 = .ok (.aload_n 0, 1) := by decide +kernel
theorem dX4_tryLine_95 : decode cX4_tryLine 95 = .ok (.iload_n 1, 1) := by decide +kernel
theorem dX4_tryLine_96 : decode cX4_tryLine 96 = .ok (.iconst 1, 1) := by decide +kernel
theorem dX4_tryLine_97 : decode cX4_tryLine 97 = .ok (.iadd, 1) := by decide +kernel
theorem dX4_tryLine_98 : decode cX4_tryLine 98 = .ok (.iload 7, 2) := by decide +kernel
theorem dX4_tryLine_100 : decode cX4_tryLine 100 = .ok (.iload 4, 2) := by decide +kernel
theorem dX4_tryLine_102 : decode cX4_tryLine 102 = .ok (.invokevirtual 114, 3) := by decide +kernel
theorem dX4_tryLine_105 : decode cX4_tryLine 105 = .ok (.return_, 1) := by decide +kernel
theorem dX4_keep_0 : decode cX4_keep 0 = .ok (.aload_n 0, 1) := by decide +kernel
theorem dX4_keep_1 : decode cX4_keep 1 = .ok (.dup, 1) := by decide +kernel
theorem dX4_keep_2 : decode cX4_keep 2 = .ok (.getfield 55, 3) := by decide +kernel
theorem dX4_keep_5 : decode cX4_keep 5 = .ok (.iconst 1, 1) := by decide +kernel
theorem dX4_keep_6 : decode cX4_keep 6 = .ok (.iadd, 1) := by decide +kernel
theorem dX4_keep_7 : decode cX4_keep 7 = .ok (.putfield 55, 3) := by decide +kernel
theorem dX4_keep_10 : decode cX4_keep 10 = .ok (.aload_n 0, 1) := by decide +kernel
theorem dX4_keep_11 : decode cX4_keep 11 = .ok (.getfield 106, 3) := by decide +kernel
theorem dX4_keep_14 : decode cX4_keep 14 = .ok (.ifCond .eq 31, 3) := by decide +kernel
theorem dX4_keep_17 : decode cX4_keep 17 = .ok (.aload_n 0, 1) := by decide +kernel
theorem dX4_keep_18 : decode cX4_keep 18 = .ok (.iload_n 2, 1) := by decide +kernel
theorem dX4_keep_19 : decode cX4_keep 19 = .ok (.putfield 67, 3) := by decide +kernel
theorem dX4_keep_22 : decode cX4_keep 22 = .ok (.aload_n 0, 1) := by decide +kernel
theorem dX4_keep_23 : decode cX4_keep 23 = .ok (.iload_n 1, 1) := by decide +kernel
theorem dX4_keep_24 : decode cX4_keep 24 = .ok (.putfield 155, 3) := by decide +kernel
theorem dX4_keep_27 : decode cX4_keep 27 = .ok (.aload_n 0, 1) := by decide +kernel
theorem dX4_keep_28 : decode cX4_keep 28 = .ok (.getfield 29, 3) := by decide +kernel
theorem dX4_keep_31 : decode cX4_keep 31 = .ok (.iconst 0, 1) := by decide +kernel
theorem dX4_keep_32 : decode cX4_keep 32 = .ok (.aload_n 0, 1) := by decide +kernel
theorem dX4_keep_33 : decode cX4_keep 33 = .ok (.getfield 44, 3) := by decide +kernel
theorem dX4_keep_36 : decode cX4_keep 36 = .ok (.iconst 0, 1) := by decide +kernel
theorem dX4_keep_37 : decode cX4_keep 37 = .ok (.aload_n 0, 1) := by decide +kernel
theorem dX4_keep_38 : decode cX4_keep 38 = .ok (.getfield 29, 3) := by decide +kernel
theorem dX4_keep_41 : decode cX4_keep 41 = .ok (.arraylength, 1) := by decide +kernel
theorem dX4_keep_42 : decode cX4_keep 42 = .ok (.invokestatic 158, 3) := by decide +kernel
theorem dX4_keep_45 : decode cX4_keep 45 = .ok (.return_, 1) := by decide +kernel
theorem dX4_placeWords_0 : decode cX4_placeWords 0 = .ok (.aload_n 0, 1) := by decide +kernel
theorem dX4_placeWords_1 : decode cX4_placeWords 1 = .ok (.getfield 80, 3) := by decide +kernel
theorem dX4_placeWords_4 : decode cX4_placeWords 4 = .ok (.ifCond .ne 7, 3) := by decide +kernel
theorem dX4_placeWords_7 : decode cX4_placeWords 7 = .ok (.iconst 0, 1) := by decide +kernel
theorem dX4_placeWords_8 : decode cX4_placeWords 8 = .ok (.goto 20, 3) := by decide +kernel
theorem dX4_placeWords_11 : decode cX4_placeWords 11 = .ok (.aload_n 0, 1) := by decide +kernel
theorem dX4_placeWords_12 : decode cX4_placeWords 12 = .ok (.getfield 80, 3) := by decide +kernel
theorem dX4_placeWords_15 : decode cX4_placeWords 15 = .ok (.iconst 1, 1) := by decide +kernel
theorem dX4_placeWords_16 : decode cX4_placeWords 16 = .ok (.if_icmp .ne 10, 3) := by decide +kernel
theorem dX4_placeWords_19 : decode cX4_placeWords 19 = .ok (.iload 4, 2) := by decide +kernel
theorem dX4_placeWords_21 : decode cX4_placeWords 21 = .ok (.iconst 2, 1) := by decide +kernel
theorem dX4_placeWords_22 : decode cX4_placeWords 22 = .ok (.idiv, 1) := by decide +kernel
theorem dX4_placeWords_23 : decode cX4_placeWords 23 = .ok (.goto 5, 3) := by decide +kernel
theorem dX4_placeWords_26 : decode cX4_placeWords 26 = .ok (.iload 4, 2) := by decide +kernel
theorem dX4_placeWords_28 : decode cX4_placeWords 28 = .ok (.istore 5, 2) := by decide +kernel
theorem dX4_placeWords_30 : decode cX4_placeWords 30 = .ok (.aload_n 0, 1) := by decide +kernel
theorem dX4_placeWords_31 : decode cX4_placeWords 31 = .ok (.getfield 32, 3) := by decide +kernel
theorem dX4_placeWords_34 : decode cX4_placeWords 34 = .ok (.iload_n 1, 1) := by decide +kernel
theorem dX4_placeWords_35 : decode cX4_placeWords 35 = .ok (.aload_n 0, 1) := by decide +kernel
theorem dX4_placeWords_36 : decode cX4_placeWords 36 = .ok (.getfield 12, 3) := by decide +kernel
theorem dX4_placeWords_39 : decode cX4_placeWords 39 = .ok (.iload_n 3, 1) := by decide +kernel
theorem dX4_placeWords_40 : decode cX4_placeWords 40 = .ok (.aload_n 0, 1) := by decide +kernel
theorem dX4_placeWords_41 : decode cX4_placeWords 41 = .ok (.getfield 21, 3) := by decide +kernel
theorem dX4_placeWords_44 : decode cX4_placeWords 44 = .ok (.iload_n 1, 1) := by decide +kernel
theorem dX4_placeWords_45 : decode cX4_placeWords 45 = .ok (.iload_n 2, 1) := by decide +kernel
theorem dX4_placeWords_46 : decode cX4_placeWords 46 = .ok (.invokevirtual 131, 3) := by decide +kernel
theorem dX4_placeWords_49 : decode cX4_placeWords 49 = .ok (.invokevirtual 164, 3) := by decide +kernel
theorem dX4_placeWords_52 : decode cX4_placeWords 52 = .ok (.iload 5, 2) := by decide +kernel
theorem dX4_placeWords_54 : decode cX4_placeWords 54 = .ok (.iadd, 1) := by decide +kernel
theorem dX4_placeWords_55 : decode cX4_placeWords 55 = .ok (.iastore, 1) := by decide +kernel
theorem dX4_placeWords_56 : decode cX4_placeWords 56 = .ok (.iload_n 1, 1) := by decide +kernel
theorem dX4_placeWords_57 : decode cX4_placeWords 57 = .ok (.iconst 1, 1) := by decide +kernel
theorem dX4_placeWords_58 : decode cX4_placeWords 58 = .ok (.iadd, 1) := by decide +kernel
theorem dX4_placeWords_59 : decode cX4_placeWords 59 = .ok (.istore 6, 2) := by decide +kernel
theorem dX4_placeWords_61 : decode cX4_placeWords 61 = .ok (.iload 6, 2) := by decide +kernel
theorem dX4_placeWords_63 : decode cX4_placeWords 63 = .ok (.iload_n 2, 1) := by decide +kernel
theorem dX4_placeWords_64 : decode cX4_placeWords 64 = .ok (.if_icmp .ge 63, 3) := by decide +kernel
theorem dX4_placeWords_67 : decode cX4_placeWords 67 = .ok (.aload_n 0, 1) := by decide +kernel
theorem dX4_placeWords_68 : decode cX4_placeWords 68 = .ok (.getfield 35, 3) := by decide +kernel
theorem dX4_placeWords_71 : decode cX4_placeWords 71 = .ok (.iload 6, 2) := by decide +kernel
theorem dX4_placeWords_73 : decode cX4_placeWords 73 = .ok (.aload_n 0, 1) := by decide +kernel
theorem dX4_placeWords_74 : decode cX4_placeWords 74 = .ok (.getfield 32, 3) := by decide +kernel
theorem dX4_placeWords_77 : decode cX4_placeWords 77 = .ok (.iload 6, 2) := by decide +kernel
theorem dX4_placeWords_79 : decode cX4_placeWords 79 = .ok (.iconst 1, 1) := by decide +kernel
theorem dX4_placeWords_80 : decode cX4_placeWords 80 = .ok (.isub, 1) := by decide +kernel
theorem dX4_placeWords_81 : decode cX4_placeWords 81 = .ok (.iaload, 1) := by decide +kernel
theorem dX4_placeWords_82 : decode cX4_placeWords 82 = .ok (.aload_n 0, 1) := by decide +kernel
theorem dX4_placeWords_83 : decode cX4_placeWords 83 = .ok (.getfield 21, 3) := by decide +kernel
theorem dX4_placeWords_86 : decode cX4_placeWords 86 = .ok (.getfield 167, 3) := by decide +kernel
theorem dX4_placeWords_89 : decode cX4_placeWords 89 = .ok (.iload 6, 2) := by decide +kernel
theorem dX4_placeWords_91 : decode cX4_placeWords 91 = .ok (.iconst 1, 1) := by decide +kernel
theorem dX4_placeWords_92 : decode cX4_placeWords 92 = .ok (.isub, 1) := by decide +kernel
theorem dX4_placeWords_93 : decode cX4_placeWords 93 = .ok (.iaload, 1) := by decide +kernel
theorem dX4_placeWords_94 : decode cX4_placeWords 94 = .ok (.iadd, 1) := by decide +kernel
theorem dX4_placeWords_95 : decode cX4_placeWords 95 = .ok (.iastore, 1) := by decide +kernel
theorem dX4_placeWords_96 : decode cX4_placeWords 96 = .ok (.aload_n 0, 1) := by decide +kernel
theorem dX4_placeWords_97 : decode cX4_placeWords 97 = .ok (.getfield 32, 3) := by decide +kernel
theorem dX4_placeWords_100 : decode cX4_placeWords 100 = .ok (.iload 6, 2) := by decide +kernel
theorem dX4_placeWords_102 : decode cX4_placeWords 102 = .ok (.aload_n 0, 1) := by decide +kernel
theorem dX4_placeWords_103 : decode cX4_placeWords 103 = .ok (.getfield 35, 3) := by decide +kernel
theorem dX4_placeWords_106 : decode cX4_placeWords 106 = .ok (.iload 6, 2) := by decide +kernel
theorem dX4_placeWords_108 : decode cX4_placeWords 108 = .ok (.iaload, 1) := by decide +kernel
theorem dX4_placeWords_109 : decode cX4_placeWords 109 = .ok (.aload_n 0, 1) := by decide +kernel
theorem dX4_placeWords_110 : decode cX4_placeWords 110 = .ok (.getfield 21, 3) := by decide +kernel
theorem dX4_placeWords_113 : decode cX4_placeWords 113 = .ok (.getfield 170, 3) := by decide +kernel
theorem dX4_placeWords_116 : decode cX4_placeWords 116 = .ok (.iload 6, 2) := by decide +kernel
theorem dX4_placeWords_118 : decode cX4_placeWords 118 = .ok (.iaload, 1) := by decide +kernel
theorem dX4_placeWords_119 : decode cX4_placeWords 119 = .ok (.iadd, 1) := by decide +kernel
theorem dX4_placeWords_120 : decode cX4_placeWords 120 = .ok (.iastore, 1) := by decide +kernel
theorem dX4_placeWords_121 : decode cX4_placeWords 121 = .ok (.iinc 6 1, 3) := by decide +kernel
theorem dX4_placeWords_124 : decode cX4_placeWords 124 = .ok (.goto (-63), 3) := by decide +kernel
theorem dX4_placeWords_127 : decode cX4_placeWords 127 = .ok (.return_, 1) := by decide +kernel
theorem dX4_chainFromAbove_0 : decode cX4_chainFromAbove 0 = .ok (.aload_n 0, 1) := by decide +kernel
theorem dX4_chainFromAbove_1 : decode cX4_chainFromAbove 1 = .ok (.getfield 29, 3) := by decide +kernel
theorem dX4_chainFromAbove_4 : decode cX4_chainFromAbove 4 = .ok (.iload_n 1, 1) := by decide +kernel
theorem dX4_chainFromAbove_5 : decode cX4_chainFromAbove 5 = .ok (.iaload, 1) := by decide +kernel
theorem dX4_chainFromAbove_6 : decode cX4_chainFromAbove 6 = .ok (.istore_n 2, 1) := by decide +kernel
theorem dX4_chainFromAbove_7 : decode cX4_chainFromAbove 7 = .ok (.iload_n 1, 1) := by decide +kernel
theorem dX4_chainFromAbove_8 : decode cX4_chainFromAbove 8 = .ok (.ifCond .le 14, 3) := by decide +kernel
theorem dX4_chainFromAbove_11 : decode cX4_chainFromAbove 11 = .ok (.aload_n 0, 1) := by decide +kernel
theorem dX4_chainFromAbove_12 : decode cX4_chainFromAbove 12 = .ok (.getfield 29, 3) := by decide +kernel
theorem dX4_chainFromAbove_15 : decode cX4_chainFromAbove 15 = .ok (.iload_n 1, 1) := by decide +kernel
theorem dX4_chainFromAbove_16 : decode cX4_chainFromAbove 16 = .ok (.iconst 1, 1) := by decide +kernel
theorem dX4_chainFromAbove_17 : decode cX4_chainFromAbove 17 = .ok (.isub, 1) := by decide +kernel
theorem dX4_chainFromAbove_18 : decode cX4_chainFromAbove 18 = .ok (.iaload, 1) := by decide +kernel
theorem dX4_chainFromAbove_19 : decode cX4_chainFromAbove 19 = .ok (.goto 4, 3) := by decide +kernel
theorem dX4_chainFromAbove_22 : decode cX4_chainFromAbove 22 = .ok (.iload_n 2, 1) := by decide +kernel
theorem dX4_chainFromAbove_23 : decode cX4_chainFromAbove 23 = .ok (.istore_n 3, 1) := by decide +kernel
theorem dX4_chainFromAbove_24 : decode cX4_chainFromAbove 24 = .ok (.iconst 0, 1) := by decide +kernel
theorem dX4_chainFromAbove_25 : decode cX4_chainFromAbove 25 = .ok (.istore 4, 2) := by decide +kernel
theorem dX4_chainFromAbove_27 : decode cX4_chainFromAbove 27 = .ok (.iload_n 2, 1) := by decide +kernel
theorem dX4_chainFromAbove_28 : decode cX4_chainFromAbove 28 = .ok (.iconst 1, 1) := by decide +kernel
theorem dX4_chainFromAbove_29 : decode cX4_chainFromAbove 29 = .ok (.iadd, 1) := by decide +kernel
theorem dX4_chainFromAbove_30 : decode cX4_chainFromAbove 30 = .ok (.istore 5, 2) := by decide +kernel
theorem dX4_chainFromAbove_32 : decode cX4_chainFromAbove 32 = .ok (.iload 5, 2) := by decide +kernel
theorem dX4_chainFromAbove_34 : decode cX4_chainFromAbove 34 = .ok (.aload_n 0, 1) := by decide +kernel
theorem dX4_chainFromAbove_35 : decode cX4_chainFromAbove 35 = .ok (.getfield 29, 3) := by decide +kernel
theorem dX4_chainFromAbove_38 : decode cX4_chainFromAbove 38 = .ok (.iload_n 1, 1) := by decide +kernel
theorem dX4_chainFromAbove_39 : decode cX4_chainFromAbove 39 = .ok (.iconst 1, 1) := by decide +kernel
theorem dX4_chainFromAbove_40 : decode cX4_chainFromAbove 40 = .ok (.iadd, 1) := by decide +kernel
theorem dX4_chainFromAbove_41 : decode cX4_chainFromAbove 41 = .ok (.iaload, 1) := by decide +kernel
theorem dX4_chainFromAbove_42 : decode cX4_chainFromAbove 42 = .ok (.if_icmp .ge 44, 3) := by decide +kernel
theorem dX4_chainFromAbove_45 : decode cX4_chainFromAbove 45 = .ok (.aload_n 0, 1) := by decide +kernel
theorem dX4_chainFromAbove_46 : decode cX4_chainFromAbove 46 = .ok (.getfield 38, 3) := by decide +kernel
theorem dX4_chainFromAbove_49 : decode cX4_chainFromAbove 49 = .ok (.iload 5, 2) := by decide +kernel
theorem dX4_chainFromAbove_51 : decode cX4_chainFromAbove 51 = .ok (.iconst 1, 1) := by decide +kernel
theorem dX4_chainFromAbove_52 : decode cX4_chainFromAbove 52 = .ok (.aload_n 0, 1) := by decide +kernel
theorem dX4_chainFromAbove_53 : decode cX4_chainFromAbove 53 = .ok (.iload 5, 2) := by decide +kernel
theorem dX4_chainFromAbove_55 : decode cX4_chainFromAbove 55 = .ok (.iload_n 3, 1) := by decide +kernel
theorem dX4_chainFromAbove_56 : decode cX4_chainFromAbove 56 = .ok (.iload_n 2, 1) := by decide +kernel
theorem dX4_chainFromAbove_57 : decode cX4_chainFromAbove 57 = .ok (.aload_n 0, 1) := by decide +kernel
theorem dX4_chainFromAbove_58 : decode cX4_chainFromAbove 58 = .ok (.getfield 38, 3) := by decide +kernel
theorem dX4_chainFromAbove_61 : decode cX4_chainFromAbove 61 = .ok (.invokevirtual 173, 3) := by decide +kernel
theorem dX4_chainFromAbove_64 : decode cX4_chainFromAbove 64 = .ok (.iadd, 1) := by decide +kernel
theorem dX4_chainFromAbove_65 : decode cX4_chainFromAbove 65 = .ok (.iastore, 1) := by decide +kernel
theorem dX4_chainFromAbove_66 : decode cX4_chainFromAbove 66 = .ok (.iload 4, 2) := by decide +kernel
theorem dX4_chainFromAbove_68 : decode cX4_chainFromAbove 68 = .ok (.aload_n 0, 1) := by decide +kernel
theorem dX4_chainFromAbove_69 : decode cX4_chainFromAbove 69 = .ok (.getfield 38, 3) := by decide +kernel
theorem dX4_chainFromAbove_72 : decode cX4_chainFromAbove 72 = .ok (.iload 5, 2) := by decide +kernel
theorem dX4_chainFromAbove_74 : decode cX4_chainFromAbove 74 = .ok (.iaload, 1) := by decide +kernel
theorem dX4_chainFromAbove_75 : decode cX4_chainFromAbove 75 = .ok (.invokestatic 177, 3) := by decide +kernel
theorem dX4_chainFromAbove_78 : decode cX4_chainFromAbove 78 = .ok (.istore 4, 2) := by decide +kernel
theorem dX4_chainFromAbove_80 : decode cX4_chainFromAbove 80 = .ok (.iinc 5 1, 3) := by decide +kernel
theorem dX4_chainFromAbove_83 : decode cX4_chainFromAbove 83 = .ok (.goto (-51), 3) := by decide +kernel
theorem dX4_chainFromAbove_86 : decode cX4_chainFromAbove 86 = .ok (.iload 4, 2) := by decide +kernel
theorem dX4_chainFromAbove_88 : decode cX4_chainFromAbove 88 = .ok (.ireturn, 1) := by decide +kernel
theorem dX4_chainFromBelow_0 : decode cX4_chainFromBelow 0 = .ok (.aload_n 0, 1) := by decide +kernel
theorem dX4_chainFromBelow_1 : decode cX4_chainFromBelow 1 = .ok (.getfield 29, 3) := by decide +kernel
theorem dX4_chainFromBelow_4 : decode cX4_chainFromBelow 4 = .ok (.iload_n 1, 1) := by decide +kernel
theorem dX4_chainFromBelow_5 : decode cX4_chainFromBelow 5 = .ok (.iconst 1, 1) := by decide +kernel
theorem dX4_chainFromBelow_6 : decode cX4_chainFromBelow 6 = .ok (.iadd, 1) := by decide +kernel
theorem dX4_chainFromBelow_7 : decode cX4_chainFromBelow 7 = .ok (.iaload, 1) := by decide +kernel
theorem dX4_chainFromBelow_8 : decode cX4_chainFromBelow 8 = .ok (.istore_n 3, 1) := by decide +kernel
theorem dX4_chainFromBelow_9 : decode cX4_chainFromBelow 9 = .ok (.iload_n 1, 1) := by decide +kernel
theorem dX4_chainFromBelow_10 : decode cX4_chainFromBelow 10 = .ok (.iconst 1, 1) := by decide +kernel
theorem dX4_chainFromBelow_11 : decode cX4_chainFromBelow 11 = .ok (.iadd, 1) := by decide +kernel
theorem dX4_chainFromBelow_12 : decode cX4_chainFromBelow 12 = .ok (.iload_n 2, 1) := by decide +kernel
theorem dX4_chainFromBelow_13 : decode cX4_chainFromBelow 13 = .ok (.if_icmp .ge 14, 3) := by decide +kernel
theorem dX4_chainFromBelow_16 : decode cX4_chainFromBelow 16 = .ok (.aload_n 0, 1) := by decide +kernel
theorem dX4_chainFromBelow_17 : decode cX4_chainFromBelow 17 = .ok (.getfield 29, 3) := by decide +kernel
theorem dX4_chainFromBelow_20 : decode cX4_chainFromBelow 20 = .ok (.iload_n 1, 1) := by decide +kernel
theorem dX4_chainFromBelow_21 : decode cX4_chainFromBelow 21 = .ok (.iconst 2, 1) := by decide +kernel
theorem dX4_chainFromBelow_22 : decode cX4_chainFromBelow 22 = .ok (.iadd, 1) := by decide +kernel
theorem dX4_chainFromBelow_23 : decode cX4_chainFromBelow 23 = .ok (.iaload, 1) := by decide +kernel
theorem dX4_chainFromBelow_24 : decode cX4_chainFromBelow 24 = .ok (.goto 4, 3) := by decide +kernel
theorem dX4_chainFromBelow_27 : decode cX4_chainFromBelow 27 = .ok (.iload_n 3, 1) := by decide +kernel
theorem dX4_chainFromBelow_28 : decode cX4_chainFromBelow 28 = .ok (.istore 4, 2) := by decide +kernel
theorem dX4_chainFromBelow_30 : decode cX4_chainFromBelow 30 = .ok (.aload_n 0, 1) := by decide +kernel
theorem dX4_chainFromBelow_31 : decode cX4_chainFromBelow 31 = .ok (.getfield 29, 3) := by decide +kernel
theorem dX4_chainFromBelow_34 : decode cX4_chainFromBelow 34 = .ok (.iload_n 1, 1) := by decide +kernel
theorem dX4_chainFromBelow_35 : decode cX4_chainFromBelow 35 = .ok (.iaload, 1) := by decide +kernel
theorem dX4_chainFromBelow_36 : decode cX4_chainFromBelow 36 = .ok (.iconst 1, 1) := by decide +kernel
theorem dX4_chainFromBelow_37 : decode cX4_chainFromBelow 37 = .ok (.iadd, 1) := by decide +kernel
theorem dX4_chainFromBelow_38 : decode cX4_chainFromBelow 38 = .ok (.istore 5, 2) := by decide +kernel
theorem dX4_chainFromBelow_40 : decode cX4_chainFromBelow 40 = .ok (.iload 5, 2) := by decide +kernel
theorem dX4_chainFromBelow_42 : decode cX4_chainFromBelow 42 = .ok (.iload_n 3, 1) := by decide +kernel
theorem dX4_chainFromBelow_43 : decode cX4_chainFromBelow 43 = .ok (.if_icmp .ge 31, 3) := by decide +kernel
theorem dX4_chainFromBelow_46 : decode cX4_chainFromBelow 46 = .ok (.aload_n 0, 1) := by decide +kernel
theorem dX4_chainFromBelow_47 : decode cX4_chainFromBelow 47 = .ok (.getfield 41, 3) := by decide +kernel
theorem dX4_chainFromBelow_50 : decode cX4_chainFromBelow 50 = .ok (.iload 5, 2) := by decide +kernel
theorem dX4_chainFromBelow_52 : decode cX4_chainFromBelow 52 = .ok (.iconst 1, 1) := by decide +kernel
theorem dX4_chainFromBelow_53 : decode cX4_chainFromBelow 53 = .ok (.aload_n 0, 1) := by decide +kernel
theorem dX4_chainFromBelow_54 : decode cX4_chainFromBelow 54 = .ok (.iload 5, 2) := by decide +kernel
theorem dX4_chainFromBelow_56 : decode cX4_chainFromBelow 56 = .ok (.iload_n 3, 1) := by decide +kernel
theorem dX4_chainFromBelow_57 : decode cX4_chainFromBelow 57 = .ok (.iload 4, 2) := by decide +kernel
theorem dX4_chainFromBelow_59 : decode cX4_chainFromBelow 59 = .ok (.aload_n 0, 1) := by decide +kernel
theorem dX4_chainFromBelow_60 : decode cX4_chainFromBelow 60 = .ok (.getfield 41, 3) := by decide +kernel
theorem dX4_chainFromBelow_63 : decode cX4_chainFromBelow 63 = .ok (.invokevirtual 173, 3) := by decide +kernel
theorem dX4_chainFromBelow_66 : decode cX4_chainFromBelow 66 = .ok (.iadd, 1) := by decide +kernel
theorem dX4_chainFromBelow_67 : decode cX4_chainFromBelow 67 = .ok (.iastore, 1) := by decide +kernel
theorem dX4_chainFromBelow_68 : decode cX4_chainFromBelow 68 = .ok (.iinc 5 1, 3) := by decide +kernel
theorem dX4_chainFromBelow_71 : decode cX4_chainFromBelow 71 = .ok (.goto (-31), 3) := by decide +kernel
theorem dX4_chainFromBelow_74 : decode cX4_chainFromBelow 74 = .ok (.return_, 1) := by decide +kernel
theorem dX4_longestTouching_0 : decode cX4_longestTouching 0 = .ok (.iconst 0, 1) := by decide +kernel
theorem dX4_longestTouching_1 : decode cX4_longestTouching 1 = .ok (.istore 5, 2) := by decide +kernel
theorem dX4_longestTouching_3 : decode cX4_longestTouching 3 = .ok (.iload_n 2, 1) := by decide +kernel
theorem dX4_longestTouching_4 : decode cX4_longestTouching 4 = .ok (.iconst 1, 1) := by decide +kernel
theorem dX4_longestTouching_5 : decode cX4_longestTouching 5 = .ok (.iadd, 1) := by decide +kernel
theorem dX4_longestTouching_6 : decode cX4_longestTouching 6 = .ok (.istore 6, 2) := by decide +kernel
theorem dX4_longestTouching_8 : decode cX4_longestTouching 8 = .ok (.iload 6, 2) := by decide +kernel
theorem dX4_longestTouching_10 : decode cX4_longestTouching 10 = .ok (.iload_n 3, 1) := by decide +kernel
theorem dX4_longestTouching_11 : decode cX4_longestTouching 11 = .ok (.if_icmp .ge 58, 3) := by decide +kernel
theorem dX4_longestTouching_14 : decode cX4_longestTouching 14 = .ok (.aload_n 0, 1) := by decide +kernel
theorem dX4_longestTouching_15 : decode cX4_longestTouching 15 = .ok (.getfield 35, 3) := by decide +kernel
theorem dX4_longestTouching_18 : decode cX4_longestTouching 18 = .ok (.iload 6, 2) := by decide +kernel
theorem dX4_longestTouching_20 : decode cX4_longestTouching 20 = .ok (.iaload, 1) := by decide +kernel
theorem dX4_longestTouching_21 : decode cX4_longestTouching 21 = .ok (.aload_n 0, 1) := by decide +kernel
theorem dX4_longestTouching_22 : decode cX4_longestTouching 22 = .ok (.getfield 32, 3) := by decide +kernel
theorem dX4_longestTouching_25 : decode cX4_longestTouching 25 = .ok (.iload_n 1, 1) := by decide +kernel
theorem dX4_longestTouching_26 : decode cX4_longestTouching 26 = .ok (.iaload, 1) := by decide +kernel
theorem dX4_longestTouching_27 : decode cX4_longestTouching 27 = .ok (.if_icmp .ge 36, 3) := by decide +kernel
theorem dX4_longestTouching_30 : decode cX4_longestTouching 30 = .ok (.aload_n 0, 1) := by decide +kernel
theorem dX4_longestTouching_31 : decode cX4_longestTouching 31 = .ok (.getfield 35, 3) := by decide +kernel
theorem dX4_longestTouching_34 : decode cX4_longestTouching 34 = .ok (.iload_n 1, 1) := by decide +kernel
theorem dX4_longestTouching_35 : decode cX4_longestTouching 35 = .ok (.iaload, 1) := by decide +kernel
theorem dX4_longestTouching_36 : decode cX4_longestTouching 36 = .ok (.aload_n 0, 1) := by decide +kernel
theorem dX4_longestTouching_37 : decode cX4_longestTouching 37 = .ok (.getfield 32, 3) := by decide +kernel
theorem dX4_longestTouching_40 : decode cX4_longestTouching 40 = .ok (.iload 6, 2) := by decide +kernel
theorem dX4_longestTouching_42 : decode cX4_longestTouching 42 = .ok (.iaload, 1) := by decide +kernel
theorem dX4_longestTouching_43 : decode cX4_longestTouching 43 = .ok (.if_icmp .ge 20, 3) := by decide +kernel
theorem dX4_longestTouching_46 : decode cX4_longestTouching 46 = .ok (.aload 4, 2) := by decide +kernel
theorem dX4_longestTouching_48 : decode cX4_longestTouching 48 = .ok (.iload 6, 2) := by decide +kernel
theorem dX4_longestTouching_50 : decode cX4_longestTouching 50 = .ok (.iaload, 1) := by decide +kernel
theorem dX4_longestTouching_51 : decode cX4_longestTouching 51 = .ok (.iload 5, 2) := by decide +kernel
theorem dX4_longestTouching_53 : decode cX4_longestTouching 53 = .ok (.if_icmp .le 10, 3) := by decide +kernel
theorem dX4_longestTouching_56 : decode cX4_longestTouching 56 = .ok (.aload 4, 2) := by decide +kernel
theorem dX4_longestTouching_58 : decode cX4_longestTouching 58 = .ok (.iload 6, 2) := by decide +kernel
theorem dX4_longestTouching_60 : decode cX4_longestTouching 60 = .ok (.iaload, 1) := by decide +kernel
theorem dX4_longestTouching_61 : decode cX4_longestTouching 61 = .ok (.istore 5, 2) := by decide +kernel
theorem dX4_longestTouching_63 : decode cX4_longestTouching 63 = .ok (.iinc 6 1, 3) := by decide +kernel
theorem dX4_longestTouching_66 : decode cX4_longestTouching 66 = .ok (.goto (-58), 3) := by decide +kernel
theorem dX4_longestTouching_69 : decode cX4_longestTouching 69 = .ok (.iload 5, 2) := by decide +kernel
theorem dX4_longestTouching_71 : decode cX4_longestTouching 71 = .ok (.ireturn, 1) := by decide +kernel
theorem dX4_describeBest_0 : decode cX4_describeBest 0 = .ok (.new 182, 3) := by decide +kernel
theorem dX4_describeBest_3 : decode cX4_describeBest 3 = .ok (.dup, 1) := by decide +kernel
theorem dX4_describeBest_4 : decode cX4_describeBest 4 = .ok (.aload_n 0, 1) := by decide +kernel
theorem dX4_describeBest_5 : decode cX4_describeBest 5 = .ok (.getfield 155, 3) := by decide +kernel
theorem dX4_describeBest_8 : decode cX4_describeBest 8 = .ok (.aload_n 0, 1) := by decide +kernel
theorem dX4_describeBest_9 : decode cX4_describeBest 9 = .ok (.getfield 21, 3) := by decide +kernel
theorem dX4_describeBest_12 : decode cX4_describeBest 12 = .ok (.getfield 86, 3) := by decide +kernel
theorem dX4_describeBest_15 : decode cX4_describeBest 15 = .ok (.invokespecial 184, 3) := by decide +kernel
theorem dX4_describeBest_18 : decode cX4_describeBest 18 = .ok (.astore_n 2, 1) := by decide +kernel
theorem dX4_describeBest_19 : decode cX4_describeBest 19 = .ok (.aload_n 0, 1) := by decide +kernel
theorem dX4_describeBest_20 : decode cX4_describeBest 20 = .ok (.getfield 44, 3) := by decide +kernel
theorem dX4_describeBest_23 : decode cX4_describeBest 23 = .ok (.iconst 0, 1) := by decide +kernel
theorem dX4_describeBest_24 : decode cX4_describeBest 24 = .ok (.aload_n 0, 1) := by decide +kernel
theorem dX4_describeBest_25 : decode cX4_describeBest 25 = .ok (.getfield 29, 3) := by decide +kernel
theorem dX4_describeBest_28 : decode cX4_describeBest 28 = .ok (.iconst 0, 1) := by decide +kernel
theorem dX4_describeBest_29 : decode cX4_describeBest 29 = .ok (.aload_n 0, 1) := by decide +kernel
theorem dX4_describeBest_30 : decode cX4_describeBest 30 = .ok (.getfield 29, 3) := by decide +kernel
theorem dX4_describeBest_33 : decode cX4_describeBest 33 = .ok (.arraylength, 1) := by decide +kernel
theorem dX4_describeBest_34 : decode cX4_describeBest 34 = .ok (.invokestatic 158, 3) := by decide +kernel
theorem dX4_describeBest_37 : decode cX4_describeBest 37 = .ok (.aload_n 0, 1) := by decide +kernel
theorem dX4_describeBest_38 : decode cX4_describeBest 38 = .ok (.getfield 74, 3) := by decide +kernel
theorem dX4_describeBest_41 : decode cX4_describeBest 41 = .ok (.istore_n 3, 1) := by decide +kernel
theorem dX4_describeBest_42 : decode cX4_describeBest 42 = .ok (.iconst 0, 1) := by decide +kernel
theorem dX4_describeBest_43 : decode cX4_describeBest 43 = .ok (.istore 4, 2) := by decide +kernel
theorem dX4_describeBest_45 : decode cX4_describeBest 45 = .ok (.iconst 0, 1) := by decide +kernel
theorem dX4_describeBest_46 : decode cX4_describeBest 46 = .ok (.istore 5, 2) := by decide +kernel
theorem dX4_describeBest_48 : decode cX4_describeBest 48 = .ok (.iload 5, 2) := by decide +kernel
theorem dX4_describeBest_50 : decode cX4_describeBest 50 = .ok (.aload_n 0, 1) := by decide +kernel
theorem dX4_describeBest_51 : decode cX4_describeBest 51 = .ok (.getfield 155, 3) := by decide +kernel
theorem dX4_describeBest_54 : decode cX4_describeBest 54 = .ok (.if_icmp .ge 52, 3) := by decide +kernel
theorem dX4_describeBest_57 : decode cX4_describeBest 57 = .ok (.aload_n 0, 1) := by decide +kernel
theorem dX4_describeBest_58 : decode cX4_describeBest 58 = .ok (.aload_n 2, 1) := by decide +kernel
theorem dX4_describeBest_59 : decode cX4_describeBest 59 = .ok (.iload 5, 2) := by decide +kernel
theorem dX4_describeBest_61 : decode cX4_describeBest 61 = .ok (.iload_n 3, 1) := by decide +kernel
theorem dX4_describeBest_62 : decode cX4_describeBest 62 = .ok (.invokevirtual 186, 3) := by decide +kernel
theorem dX4_describeBest_65 : decode cX4_describeBest 65 = .ok (.iload 4, 2) := by decide +kernel
theorem dX4_describeBest_67 : decode cX4_describeBest 67 = .ok (.aload_n 0, 1) := by decide +kernel
theorem dX4_describeBest_68 : decode cX4_describeBest 68 = .ok (.iload 5, 2) := by decide +kernel
theorem dX4_describeBest_70 : decode cX4_describeBest 70 = .ok (.invokevirtual 151, 3) := by decide +kernel
theorem dX4_describeBest_73 : decode cX4_describeBest 73 = .ok (.invokestatic 177, 3) := by decide +kernel
theorem dX4_describeBest_76 : decode cX4_describeBest 76 = .ok (.istore 4, 2) := by decide +kernel
theorem dX4_describeBest_78 : decode cX4_describeBest 78 = .ok (.aload_n 0, 1) := by decide +kernel
theorem dX4_describeBest_79 : decode cX4_describeBest 79 = .ok (.aload_n 0, 1) := by decide +kernel
theorem dX4_describeBest_80 : decode cX4_describeBest 80 = .ok (.getfield 29, 3) := by decide +kernel
theorem dX4_describeBest_83 : decode cX4_describeBest 83 = .ok (.iload 5, 2) := by decide +kernel
theorem dX4_describeBest_85 : decode cX4_describeBest 85 = .ok (.iaload, 1) := by decide +kernel
theorem dX4_describeBest_86 : decode cX4_describeBest 86 = .ok (.aload_n 0, 1) := by decide +kernel
theorem dX4_describeBest_87 : decode cX4_describeBest 87 = .ok (.getfield 29, 3) := by decide +kernel
theorem dX4_describeBest_90 : decode cX4_describeBest 90 = .ok (.iload 5, 2) := by decide +kernel
theorem dX4_describeBest_92 : decode cX4_describeBest 92 = .ok (.iconst 1, 1) := by decide +kernel
theorem dX4_describeBest_93 : decode cX4_describeBest 93 = .ok (.iadd, 1) := by decide +kernel
theorem dX4_describeBest_94 : decode cX4_describeBest 94 = .ok (.iaload, 1) := by decide +kernel
theorem dX4_describeBest_95 : decode cX4_describeBest 95 = .ok (.iload_n 3, 1) := by decide +kernel
theorem dX4_describeBest_96 : decode cX4_describeBest 96 = .ok (.invokevirtual 128, 3) := by decide +kernel
theorem dX4_describeBest_99 : decode cX4_describeBest 99 = .ok (.istore_n 3, 1) := by decide +kernel
theorem dX4_describeBest_100 : decode cX4_describeBest 100 = .ok (.iinc 5 1, 3) := by decide +kernel
theorem dX4_describeBest_103 : decode cX4_describeBest 103 = .ok (.goto (-55), 3) := by decide +kernel
theorem dX4_describeBest_106 : decode cX4_describeBest 106 = .ok (.aload_n 0, 1) := by decide +kernel
theorem dX4_describeBest_107 : decode cX4_describeBest 107 = .ok (.getfield 155, 3) := by decide +kernel
theorem dX4_describeBest_110 : decode cX4_describeBest 110 = .ok (.iconst 1, 1) := by decide +kernel
theorem dX4_describeBest_111 : decode cX4_describeBest 111 = .ok (.isub, 1) := by decide +kernel
theorem dX4_describeBest_112 : decode cX4_describeBest 112 = .ok (.istore 5, 2) := by decide +kernel
theorem dX4_describeBest_114 : decode cX4_describeBest 114 = .ok (.iload 5, 2) := by decide +kernel
theorem dX4_describeBest_116 : decode cX4_describeBest 116 = .ok (.ifCond .lt 26, 3) := by decide +kernel
theorem dX4_describeBest_119 : decode cX4_describeBest 119 = .ok (.aload_n 0, 1) := by decide +kernel
theorem dX4_describeBest_120 : decode cX4_describeBest 120 = .ok (.iload 5, 2) := by decide +kernel
theorem dX4_describeBest_122 : decode cX4_describeBest 122 = .ok (.aload_n 0, 1) := by decide +kernel
theorem dX4_describeBest_123 : decode cX4_describeBest 123 = .ok (.getfield 155, 3) := by decide +kernel
theorem dX4_describeBest_126 : decode cX4_describeBest 126 = .ok (.invokevirtual 190, 3) := by decide +kernel
theorem dX4_describeBest_129 : decode cX4_describeBest 129 = .ok (.aload_n 0, 1) := by decide +kernel
theorem dX4_describeBest_130 : decode cX4_describeBest 130 = .ok (.aload_n 2, 1) := by decide +kernel
theorem dX4_describeBest_131 : decode cX4_describeBest 131 = .ok (.iload 5, 2) := by decide +kernel
theorem dX4_describeBest_133 : decode cX4_describeBest 133 = .ok (.invokevirtual 193, 3) := by decide +kernel
theorem dX4_describeBest_136 : decode cX4_describeBest 136 = .ok (.iinc 5 (-1), 3) := by decide +kernel
theorem dX4_describeBest_139 : decode cX4_describeBest 139 = .ok (.goto (-25), 3) := by decide +kernel
theorem dX4_describeBest_142 : decode cX4_describeBest 142 = .ok (.aload_n 2, 1) := by decide +kernel
theorem dX4_describeBest_143 : decode cX4_describeBest 143 = .ok (.iload_n 1, 1) := by decide +kernel
theorem dX4_describeBest_144 : decode cX4_describeBest 144 = .ok (.aload_n 0, 1) := by decide +kernel
theorem dX4_describeBest_145 : decode cX4_describeBest 145 = .ok (.getfield 67, 3) := by decide +kernel
theorem dX4_describeBest_148 : decode cX4_describeBest 148 = .ok (.iload 4, 2) := by decide +kernel
theorem dX4_describeBest_150 : decode cX4_describeBest 150 = .ok (.iload_n 3, 1) := by decide +kernel
theorem dX4_describeBest_151 : decode cX4_describeBest 151 = .ok (.aload_n 0, 1) := by decide +kernel
theorem dX4_describeBest_152 : decode cX4_describeBest 152 = .ok (.getfield 77, 3) := by decide +kernel
theorem dX4_describeBest_155 : decode cX4_describeBest 155 = .ok (.isub, 1) := by decide +kernel
theorem dX4_describeBest_156 : decode cX4_describeBest 156 = .ok (.invokevirtual 197, 3) := by decide +kernel
theorem dX4_describeBest_159 : decode cX4_describeBest 159 = .ok (.aload_n 2, 1) := by decide +kernel
theorem dX4_describeBest_160 : decode cX4_describeBest 160 = .ok (.areturn, 1) := by decide +kernel
theorem dX4_describeLine_0 : decode cX4_describeLine 0 = .ok (.aload_n 0, 1) := by decide +kernel
theorem dX4_describeLine_1 : decode cX4_describeLine 1 = .ok (.getfield 29, 3) := by decide +kernel
theorem dX4_describeLine_4 : decode cX4_describeLine 4 = .ok (.iload_n 2, 1) := by decide +kernel
theorem dX4_describeLine_5 : decode cX4_describeLine 5 = .ok (.iaload, 1) := by decide +kernel
theorem dX4_describeLine_6 : decode cX4_describeLine 6 = .ok (.istore 4, 2) := by decide +kernel
theorem dX4_describeLine_8 : decode cX4_describeLine 8 = .ok (.aload_n 0, 1) := by decide +kernel
theorem dX4_describeLine_9 : decode cX4_describeLine 9 = .ok (.getfield 29, 3) := by decide +kernel
theorem dX4_describeLine_12 : decode cX4_describeLine 12 = .ok (.iload_n 2, 1) := by decide +kernel
theorem dX4_describeLine_13 : decode cX4_describeLine 13 = .ok (.iconst 1, 1) := by decide +kernel
theorem dX4_describeLine_14 : decode cX4_describeLine 14 = .ok (.iadd, 1) := by decide +kernel
theorem dX4_describeLine_15 : decode cX4_describeLine 15 = .ok (.iaload, 1) := by decide +kernel
theorem dX4_describeLine_16 : decode cX4_describeLine 16 = .ok (.istore 5, 2) := by decide +kernel
theorem dX4_describeLine_18 : decode cX4_describeLine 18 = .ok (.aload_n 0, 1) := by decide +kernel
theorem dX4_describeLine_19 : decode cX4_describeLine 19 = .ok (.getfield 21, 3) := by decide +kernel
theorem dX4_describeLine_22 : decode cX4_describeLine 22 = .ok (.iload 4, 2) := by decide +kernel
theorem dX4_describeLine_24 : decode cX4_describeLine 24 = .ok (.iload 5, 2) := by decide +kernel
theorem dX4_describeLine_26 : decode cX4_describeLine 26 = .ok (.invokevirtual 131, 3) := by decide +kernel
theorem dX4_describeLine_29 : decode cX4_describeLine 29 = .ok (.istore 6, 2) := by decide +kernel
theorem dX4_describeLine_31 : decode cX4_describeLine 31 = .ok (.aload_n 0, 1) := by decide +kernel
theorem dX4_describeLine_32 : decode cX4_describeLine 32 = .ok (.iload 4, 2) := by decide +kernel
theorem dX4_describeLine_34 : decode cX4_describeLine 34 = .ok (.iload 5, 2) := by decide +kernel
theorem dX4_describeLine_36 : decode cX4_describeLine 36 = .ok (.iload_n 3, 1) := by decide +kernel
theorem dX4_describeLine_37 : decode cX4_describeLine 37 = .ok (.invokevirtual 124, 3) := by decide +kernel
theorem dX4_describeLine_40 : decode cX4_describeLine 40 = .ok (.istore 7, 2) := by decide +kernel
theorem dX4_describeLine_42 : decode cX4_describeLine 42 = .ok (.aload_n 0, 1) := by decide +kernel
theorem dX4_describeLine_43 : decode cX4_describeLine 43 = .ok (.iload 4, 2) := by decide +kernel
theorem dX4_describeLine_45 : decode cX4_describeLine 45 = .ok (.iload 5, 2) := by decide +kernel
theorem dX4_describeLine_47 : decode cX4_describeLine 47 = .ok (.iload_n 3, 1) := by decide +kernel
theorem dX4_describeLine_48 : decode cX4_describeLine 48 = .ok (.iload 7, 2) := by decide +kernel
theorem dX4_describeLine_50 : decode cX4_describeLine 50 = .ok (.invokevirtual 148, 3) := by decide +kernel
theorem dX4_describeLine_53 : decode cX4_describeLine 53 = .ok (.iload_n 2, 1) := by decide +kernel
theorem dX4_describeLine_54 : decode cX4_describeLine 54 = .ok (.bipush 7, 2) := by decide +kernel
theorem dX4_describeLine_56 : decode cX4_describeLine 56 = .ok (.imul, 1) := by decide +kernel
theorem dX4_describeLine_57 : decode cX4_describeLine 57 = .ok (.istore 8, 2) := by decide +kernel
theorem dX4_describeLine_59 : decode cX4_describeLine 59 = .ok (.aload_n 1, 1) := by decide +kernel
theorem dX4_describeLine_60 : decode cX4_describeLine 60 = .ok (.getfield 200, 3) := by decide +kernel
theorem dX4_describeLine_63 : decode cX4_describeLine 63 = .ok (.iload 8, 2) := by decide +kernel
theorem dX4_describeLine_65 : decode cX4_describeLine 65 = .ok (.iload 4, 2) := by decide +kernel
theorem dX4_describeLine_67 : decode cX4_describeLine 67 = .ok (.iastore, 1) := by decide +kernel
theorem dX4_describeLine_68 : decode cX4_describeLine 68 = .ok (.aload_n 1, 1) := by decide +kernel
theorem dX4_describeLine_69 : decode cX4_describeLine 69 = .ok (.getfield 200, 3) := by decide +kernel
theorem dX4_describeLine_72 : decode cX4_describeLine 72 = .ok (.iload 8, 2) := by decide +kernel
theorem dX4_describeLine_74 : decode cX4_describeLine 74 = .ok (.iconst 1, 1) := by decide +kernel
theorem dX4_describeLine_75 : decode cX4_describeLine 75 = .ok (.iadd, 1) := by decide +kernel
theorem dX4_describeLine_76 : decode cX4_describeLine 76 = .ok (.iload 5, 2) := by decide +kernel
theorem dX4_describeLine_78 : decode cX4_describeLine 78 = .ok (.iload 4, 2) := by decide +kernel
theorem dX4_describeLine_80 : decode cX4_describeLine 80 = .ok (.isub, 1) := by decide +kernel
theorem dX4_describeLine_81 : decode cX4_describeLine 81 = .ok (.iastore, 1) := by decide +kernel
theorem dX4_describeLine_82 : decode cX4_describeLine 82 = .ok (.aload_n 1, 1) := by decide +kernel
theorem dX4_describeLine_83 : decode cX4_describeLine 83 = .ok (.getfield 200, 3) := by decide +kernel
theorem dX4_describeLine_86 : decode cX4_describeLine 86 = .ok (.iload 8, 2) := by decide +kernel
theorem dX4_describeLine_88 : decode cX4_describeLine 88 = .ok (.iconst 2, 1) := by decide +kernel
theorem dX4_describeLine_89 : decode cX4_describeLine 89 = .ok (.iadd, 1) := by decide +kernel
theorem dX4_describeLine_90 : decode cX4_describeLine 90 = .ok (.iload_n 3, 1) := by decide +kernel
theorem dX4_describeLine_91 : decode cX4_describeLine 91 = .ok (.iastore, 1) := by decide +kernel
theorem dX4_describeLine_92 : decode cX4_describeLine 92 = .ok (.aload_n 1, 1) := by decide +kernel
theorem dX4_describeLine_93 : decode cX4_describeLine 93 = .ok (.getfield 200, 3) := by decide +kernel
theorem dX4_describeLine_96 : decode cX4_describeLine 96 = .ok (.iload 8, 2) := by decide +kernel
theorem dX4_describeLine_98 : decode cX4_describeLine 98 = .ok (.iconst 3, 1) := by decide +kernel
theorem dX4_describeLine_99 : decode cX4_describeLine 99 = .ok (.iadd, 1) := by decide +kernel
theorem dX4_describeLine_100 : decode cX4_describeLine 100 = .ok (.iload 6, 2) := by decide +kernel
theorem dX4_describeLine_102 : decode cX4_describeLine 102 = .ok (.iastore, 1) := by decide +kernel
theorem dX4_describeLine_103 : decode cX4_describeLine 103 = .ok (.aload_n 1, 1) := by decide +kernel
theorem dX4_describeLine_104 : decode cX4_describeLine 104 = .ok (.getfield 200, 3) := by decide +kernel
theorem dX4_describeLine_107 : decode cX4_describeLine 107 = .ok (.iload 8, 2) := by decide +kernel
theorem dX4_describeLine_109 : decode cX4_describeLine 109 = .ok (.iconst 4, 1) := by decide +kernel
theorem dX4_describeLine_110 : decode cX4_describeLine 110 = .ok (.iadd, 1) := by decide +kernel
theorem dX4_describeLine_111 : decode cX4_describeLine 111 = .ok (.aload_n 0, 1) := by decide +kernel
theorem dX4_describeLine_112 : decode cX4_describeLine 112 = .ok (.getfield 21, 3) := by decide +kernel
theorem dX4_describeLine_115 : decode cX4_describeLine 115 = .ok (.iload 4, 2) := by decide +kernel
theorem dX4_describeLine_117 : decode cX4_describeLine 117 = .ok (.iload 5, 2) := by decide +kernel
theorem dX4_describeLine_119 : decode cX4_describeLine 119 = .ok (.invokevirtual 137, 3) := by decide +kernel
theorem dX4_describeLine_122 : decode cX4_describeLine 122 = .ok (.iastore, 1) := by decide +kernel
theorem dX4_describeLine_123 : decode cX4_describeLine 123 = .ok (.aload_n 1, 1) := by decide +kernel
theorem dX4_describeLine_124 : decode cX4_describeLine 124 = .ok (.getfield 200, 3) := by decide +kernel
theorem dX4_describeLine_127 : decode cX4_describeLine 127 = .ok (.iload 8, 2) := by decide +kernel
theorem dX4_describeLine_129 : decode cX4_describeLine 129 = .ok (.iconst 5, 1) := by decide +kernel
theorem dX4_describeLine_130 : decode cX4_describeLine 130 = .ok (.iadd, 1) := by decide +kernel
theorem dX4_describeLine_131 : decode cX4_describeLine 131 = .ok (.aload_n 0, 1) := by decide +kernel
theorem dX4_describeLine_132 : decode cX4_describeLine 132 = .ok (.getfield 12, 3) := by decide +kernel
theorem dX4_describeLine_135 : decode cX4_describeLine 135 = .ok (.iload_n 3, 1) := by decide +kernel
theorem dX4_describeLine_136 : decode cX4_describeLine 136 = .ok (.iload 6, 2) := by decide +kernel
theorem dX4_describeLine_138 : decode cX4_describeLine 138 = .ok (.invokevirtual 164, 3) := by decide +kernel
theorem dX4_describeLine_141 : decode cX4_describeLine 141 = .ok (.iastore, 1) := by decide +kernel
theorem dX4_describeLine_142 : decode cX4_describeLine 142 = .ok (.aload_n 1, 1) := by decide +kernel
theorem dX4_describeLine_143 : decode cX4_describeLine 143 = .ok (.getfield 200, 3) := by decide +kernel
theorem dX4_describeLine_146 : decode cX4_describeLine 146 = .ok (.iload 8, 2) := by decide +kernel
theorem dX4_describeLine_148 : decode cX4_describeLine 148 = .ok (.bipush 6, 2) := by decide +kernel
theorem dX4_describeLine_150 : decode cX4_describeLine 150 = .ok (.iadd, 1) := by decide +kernel
theorem dX4_describeLine_151 : decode cX4_describeLine 151 = .ok (.iload 7, 2) := by decide +kernel
theorem dX4_describeLine_153 : decode cX4_describeLine 153 = .ok (.iastore, 1) := by decide +kernel
theorem dX4_describeLine_154 : decode cX4_describeLine 154 = .ok (.return_, 1) := by decide +kernel
theorem dX4_describeWords_0 : decode cX4_describeWords 0 = .ok (.aload_n 0, 1) := by decide +kernel
theorem dX4_describeWords_1 : decode cX4_describeWords 1 = .ok (.getfield 29, 3) := by decide +kernel
theorem dX4_describeWords_4 : decode cX4_describeWords 4 = .ok (.iload_n 2, 1) := by decide +kernel
theorem dX4_describeWords_5 : decode cX4_describeWords 5 = .ok (.iaload, 1) := by decide +kernel
theorem dX4_describeWords_6 : decode cX4_describeWords 6 = .ok (.istore_n 3, 1) := by decide +kernel
theorem dX4_describeWords_7 : decode cX4_describeWords 7 = .ok (.iload_n 3, 1) := by decide +kernel
theorem dX4_describeWords_8 : decode cX4_describeWords 8 = .ok (.aload_n 0, 1) := by decide +kernel
theorem dX4_describeWords_9 : decode cX4_describeWords 9 = .ok (.getfield 29, 3) := by decide +kernel
theorem dX4_describeWords_12 : decode cX4_describeWords 12 = .ok (.iload_n 2, 1) := by decide +kernel
theorem dX4_describeWords_13 : decode cX4_describeWords 13 = .ok (.iconst 1, 1) := by decide +kernel
theorem dX4_describeWords_14 : decode cX4_describeWords 14 = .ok (.iadd, 1) := by decide +kernel
theorem dX4_describeWords_15 : decode cX4_describeWords 15 = .ok (.iaload, 1) := by decide +kernel
theorem dX4_describeWords_16 : decode cX4_describeWords 16 = .ok (.if_icmp .ge 111, 3) := by decide +kernel
theorem dX4_describeWords_19 : decode cX4_describeWords 19 = .ok (.iload_n 3, 1) := by decide +kernel
theorem dX4_describeWords_20 : decode cX4_describeWords 20 = .ok (.iconst 5, 1) := by decide +kernel
theorem dX4_describeWords_21 : decode cX4_describeWords 21 = .ok (.imul, 1) := by decide +kernel
theorem dX4_describeWords_22 : decode cX4_describeWords 22 = .ok (.istore 4, 2) := by decide +kernel
theorem dX4_describeWords_24 : decode cX4_describeWords 24 = .ok (.aload_n 1, 1) := by decide +kernel
theorem dX4_describeWords_25 : decode cX4_describeWords 25 = .ok (.getfield 203, 3) := by decide +kernel
theorem dX4_describeWords_28 : decode cX4_describeWords 28 = .ok (.iload 4, 2) := by decide +kernel
theorem dX4_describeWords_30 : decode cX4_describeWords 30 = .ok (.aload_n 0, 1) := by decide +kernel
theorem dX4_describeWords_31 : decode cX4_describeWords 31 = .ok (.getfield 32, 3) := by decide +kernel
theorem dX4_describeWords_34 : decode cX4_describeWords 34 = .ok (.iload_n 3, 1) := by decide +kernel
theorem dX4_describeWords_35 : decode cX4_describeWords 35 = .ok (.iaload, 1) := by decide +kernel
theorem dX4_describeWords_36 : decode cX4_describeWords 36 = .ok (.iastore, 1) := by decide +kernel
theorem dX4_describeWords_37 : decode cX4_describeWords 37 = .ok (.aload_n 1, 1) := by decide +kernel
theorem dX4_describeWords_38 : decode cX4_describeWords 38 = .ok (.getfield 203, 3) := by decide +kernel
theorem dX4_describeWords_41 : decode cX4_describeWords 41 = .ok (.iload 4, 2) := by decide +kernel
theorem dX4_describeWords_43 : decode cX4_describeWords 43 = .ok (.iconst 1, 1) := by decide +kernel
theorem dX4_describeWords_44 : decode cX4_describeWords 44 = .ok (.iadd, 1) := by decide +kernel
theorem dX4_describeWords_45 : decode cX4_describeWords 45 = .ok (.aload_n 0, 1) := by decide +kernel
theorem dX4_describeWords_46 : decode cX4_describeWords 46 = .ok (.getfield 21, 3) := by decide +kernel
theorem dX4_describeWords_49 : decode cX4_describeWords 49 = .ok (.getfield 167, 3) := by decide +kernel
theorem dX4_describeWords_52 : decode cX4_describeWords 52 = .ok (.iload_n 3, 1) := by decide +kernel
theorem dX4_describeWords_53 : decode cX4_describeWords 53 = .ok (.iaload, 1) := by decide +kernel
theorem dX4_describeWords_54 : decode cX4_describeWords 54 = .ok (.iastore, 1) := by decide +kernel
theorem dX4_describeWords_55 : decode cX4_describeWords 55 = .ok (.aload_n 1, 1) := by decide +kernel
theorem dX4_describeWords_56 : decode cX4_describeWords 56 = .ok (.getfield 203, 3) := by decide +kernel
theorem dX4_describeWords_59 : decode cX4_describeWords 59 = .ok (.iload 4, 2) := by decide +kernel
theorem dX4_describeWords_61 : decode cX4_describeWords 61 = .ok (.iconst 2, 1) := by decide +kernel
theorem dX4_describeWords_62 : decode cX4_describeWords 62 = .ok (.iadd, 1) := by decide +kernel
theorem dX4_describeWords_63 : decode cX4_describeWords 63 = .ok (.aload_n 0, 1) := by decide +kernel
theorem dX4_describeWords_64 : decode cX4_describeWords 64 = .ok (.getfield 21, 3) := by decide +kernel
theorem dX4_describeWords_67 : decode cX4_describeWords 67 = .ok (.getfield 93, 3) := by decide +kernel
theorem dX4_describeWords_70 : decode cX4_describeWords 70 = .ok (.iload_n 3, 1) := by decide +kernel
theorem dX4_describeWords_71 : decode cX4_describeWords 71 = .ok (.iaload, 1) := by decide +kernel
theorem dX4_describeWords_72 : decode cX4_describeWords 72 = .ok (.iastore, 1) := by decide +kernel
theorem dX4_describeWords_73 : decode cX4_describeWords 73 = .ok (.aload_n 1, 1) := by decide +kernel
theorem dX4_describeWords_74 : decode cX4_describeWords 74 = .ok (.getfield 203, 3) := by decide +kernel
theorem dX4_describeWords_77 : decode cX4_describeWords 77 = .ok (.iload 4, 2) := by decide +kernel
theorem dX4_describeWords_79 : decode cX4_describeWords 79 = .ok (.iconst 3, 1) := by decide +kernel
theorem dX4_describeWords_80 : decode cX4_describeWords 80 = .ok (.iadd, 1) := by decide +kernel
theorem dX4_describeWords_81 : decode cX4_describeWords 81 = .ok (.iload_n 2, 1) := by decide +kernel
theorem dX4_describeWords_82 : decode cX4_describeWords 82 = .ok (.iastore, 1) := by decide +kernel
theorem dX4_describeWords_83 : decode cX4_describeWords 83 = .ok (.aload_n 1, 1) := by decide +kernel
theorem dX4_describeWords_84 : decode cX4_describeWords 84 = .ok (.getfield 203, 3) := by decide +kernel
theorem dX4_describeWords_87 : decode cX4_describeWords 87 = .ok (.iload 4, 2) := by decide +kernel
theorem dX4_describeWords_89 : decode cX4_describeWords 89 = .ok (.iconst 4, 1) := by decide +kernel
theorem dX4_describeWords_90 : decode cX4_describeWords 90 = .ok (.iadd, 1) := by decide +kernel
theorem dX4_describeWords_91 : decode cX4_describeWords 91 = .ok (.iload_n 3, 1) := by decide +kernel
theorem dX4_describeWords_92 : decode cX4_describeWords 92 = .ok (.aload_n 0, 1) := by decide +kernel
theorem dX4_describeWords_93 : decode cX4_describeWords 93 = .ok (.getfield 29, 3) := by decide +kernel
theorem dX4_describeWords_96 : decode cX4_describeWords 96 = .ok (.iload_n 2, 1) := by decide +kernel
theorem dX4_describeWords_97 : decode cX4_describeWords 97 = .ok (.iaload, 1) := by decide +kernel
theorem dX4_describeWords_98 : decode cX4_describeWords 98 = .ok (.if_icmp .le 21, 3) := by decide +kernel
theorem dX4_describeWords_101 : decode cX4_describeWords 101 = .ok (.aload_n 0, 1) := by decide +kernel
theorem dX4_describeWords_102 : decode cX4_describeWords 102 = .ok (.getfield 38, 3) := by decide +kernel
theorem dX4_describeWords_105 : decode cX4_describeWords 105 = .ok (.iload_n 3, 1) := by decide +kernel
theorem dX4_describeWords_106 : decode cX4_describeWords 106 = .ok (.iaload, 1) := by decide +kernel
theorem dX4_describeWords_107 : decode cX4_describeWords 107 = .ok (.aload_n 0, 1) := by decide +kernel
theorem dX4_describeWords_108 : decode cX4_describeWords 108 = .ok (.getfield 41, 3) := by decide +kernel
theorem dX4_describeWords_111 : decode cX4_describeWords 111 = .ok (.iload_n 3, 1) := by decide +kernel
theorem dX4_describeWords_112 : decode cX4_describeWords 112 = .ok (.iaload, 1) := by decide +kernel
theorem dX4_describeWords_113 : decode cX4_describeWords 113 = .ok (.iadd, 1) := by decide +kernel
theorem dX4_describeWords_114 : decode cX4_describeWords 114 = .ok (.iconst 1, 1) := by decide +kernel
theorem dX4_describeWords_115 : decode cX4_describeWords 115 = .ok (.isub, 1) := by decide +kernel
theorem dX4_describeWords_116 : decode cX4_describeWords 116 = .ok (.goto 4, 3) := by decide +kernel
theorem dX4_describeWords_119 : decode cX4_describeWords 119 = .ok (.iconst 0, 1) := by decide +kernel
theorem dX4_describeWords_120 : decode cX4_describeWords 120 = .ok (.iastore, 1) := by decide +kernel
theorem dX4_describeWords_121 : decode cX4_describeWords 121 = .ok (.iinc 3 1, 3) := by decide +kernel
theorem dX4_describeWords_124 : decode cX4_describeWords 124 = .ok (.goto (-117), 3) := by decide +kernel
theorem dX4_describeWords_127 : decode cX4_describeWords 127 = .ok (.return_, 1) := by decide +kernel
theorem dX5_init_0 : decode cX5_init 0 = .ok (.aload_n 0, 1) := by decide +kernel
theorem dX5_init_1 : decode cX5_init 1 = .ok (.invokespecial 3, 3) := by decide +kernel
theorem dX5_init_4 : decode cX5_init 4 = .ok (.aload_n 0, 1) := by decide +kernel
theorem dX5_init_5 : decode cX5_init 5 = .ok (.new 9, 3) := by decide +kernel
theorem dX5_init_8 : decode cX5_init 8 = .ok (.dup, 1) := by decide +kernel
theorem dX5_init_9 : decode cX5_init 9 = .ok (.invokespecial 11, 3) := by decide +kernel
theorem dX5_init_12 : decode cX5_init 12 = .ok (.putfield 12, 3) := by decide +kernel
theorem dX5_init_15 : decode cX5_init 15 = .ok (.aload_n 0, 1) := by decide +kernel
theorem dX5_init_16 : decode cX5_init 16 = .ok (.iconst 0, 1) := by decide +kernel
theorem dX5_init_17 : decode cX5_init 17 = .ok (.putfield 18, 3) := by decide +kernel
theorem dX5_init_20 : decode cX5_init 20 = .ok (.aload_n 0, 1) := by decide +kernel
theorem dX5_init_21 : decode cX5_init 21 = .ok (.bipush 42, 2) := by decide +kernel
theorem dX5_init_23 : decode cX5_init 23 = .ok (.newarray .int, 2) := by decide +kernel
theorem dX5_init_25 : decode cX5_init 25 = .ok (.putfield 22, 3) := by decide +kernel
theorem dX5_init_28 : decode cX5_init 28 = .ok (.aload_n 0, 1) := by decide +kernel
theorem dX5_init_29 : decode cX5_init 29 = .ok (.bipush 8, 2) := by decide +kernel
theorem dX5_init_31 : decode cX5_init 31 = .ok (.newarray .int, 2) := by decide +kernel
theorem dX5_init_33 : decode cX5_init 33 = .ok (.putfield 26, 3) := by decide +kernel
theorem dX5_init_36 : decode cX5_init 36 = .ok (.aload_n 0, 1) := by decide +kernel
theorem dX5_init_37 : decode cX5_init 37 = .ok (.aconst_null, 1) := by decide +kernel
theorem dX5_init_38 : decode cX5_init 38 = .ok (.putfield 29, 3) := by decide +kernel
theorem dX5_init_41 : decode cX5_init 41 = .ok (.aload_n 0, 1) := by decide +kernel
theorem dX5_init_42 : decode cX5_init 42 = .ok (.getfield 26, 3) := by decide +kernel
theorem dX5_init_45 : decode cX5_init 45 = .ok (.iconst 1, 1) := by decide +kernel
theorem dX5_init_46 : decode cX5_init 46 = .ok (.invokestatic 33, 3) := by decide +kernel
theorem dX5_init_49 : decode cX5_init 49 = .ok (.aload_n 0, 1) := by decide +kernel
theorem dX5_init_50 : decode cX5_init 50 = .ok (.getfield 26, 3) := by decide +kernel
theorem dX5_init_53 : decode cX5_init 53 = .ok (.iconst 4, 1) := by decide +kernel
theorem dX5_init_54 : decode cX5_init 54 = .ok (.iconst 0, 1) := by decide +kernel
theorem dX5_init_55 : decode cX5_init 55 = .ok (.iastore, 1) := by decide +kernel
theorem dX5_init_56 : decode cX5_init 56 = .ok (.aload_n 0, 1) := by decide +kernel
theorem dX5_init_57 : decode cX5_init 57 = .ok (.getfield 26, 3) := by decide +kernel
theorem dX5_init_60 : decode cX5_init 60 = .ok (.bipush 7, 2) := by decide +kernel
theorem dX5_init_62 : decode cX5_init 62 = .ok (.bipush 9, 2) := by decide +kernel
theorem dX5_init_64 : decode cX5_init 64 = .ok (.iastore, 1) := by decide +kernel
theorem dX5_init_65 : decode cX5_init 65 = .ok (.return_, 1) := by decide +kernel
theorem dX5_copyFrom_0 : decode cX5_copyFrom 0 = .ok (.aload_n 0, 1) := by decide +kernel
theorem dX5_copyFrom_1 : decode cX5_copyFrom 1 = .ok (.getfield 12, 3) := by decide +kernel
theorem dX5_copyFrom_4 : decode cX5_copyFrom 4 = .ok (.aload_n 1, 1) := by decide +kernel
theorem dX5_copyFrom_5 : decode cX5_copyFrom 5 = .ok (.getfield 12, 3) := by decide +kernel
theorem dX5_copyFrom_8 : decode cX5_copyFrom 8 = .ok (.invokevirtual 39, 3) := by decide +kernel
theorem dX5_copyFrom_11 : decode cX5_copyFrom 11 = .ok (.aload_n 0, 1) := by decide +kernel
theorem dX5_copyFrom_12 : decode cX5_copyFrom 12 = .ok (.aload_n 1, 1) := by decide +kernel
theorem dX5_copyFrom_13 : decode cX5_copyFrom 13 = .ok (.getfield 18, 3) := by decide +kernel
theorem dX5_copyFrom_16 : decode cX5_copyFrom 16 = .ok (.putfield 18, 3) := by decide +kernel
theorem dX5_copyFrom_19 : decode cX5_copyFrom 19 = .ok (.aload_n 1, 1) := by decide +kernel
theorem dX5_copyFrom_20 : decode cX5_copyFrom 20 = .ok (.getfield 22, 3) := by decide +kernel
theorem dX5_copyFrom_23 : decode cX5_copyFrom 23 = .ok (.iconst 0, 1) := by decide +kernel
theorem dX5_copyFrom_24 : decode cX5_copyFrom 24 = .ok (.aload_n 0, 1) := by decide +kernel
theorem dX5_copyFrom_25 : decode cX5_copyFrom 25 = .ok (.getfield 22, 3) := by decide +kernel
theorem dX5_copyFrom_28 : decode cX5_copyFrom 28 = .ok (.iconst 0, 1) := by decide +kernel
theorem dX5_copyFrom_29 : decode cX5_copyFrom 29 = .ok (.aload_n 0, 1) := by decide +kernel
theorem dX5_copyFrom_30 : decode cX5_copyFrom 30 = .ok (.getfield 22, 3) := by decide +kernel
theorem dX5_copyFrom_33 : decode cX5_copyFrom 33 = .ok (.arraylength, 1) := by decide +kernel
theorem dX5_copyFrom_34 : decode cX5_copyFrom 34 = .ok (.invokestatic 43, 3) := by decide +kernel
theorem dX5_copyFrom_37 : decode cX5_copyFrom 37 = .ok (.aload_n 1, 1) := by decide +kernel
theorem dX5_copyFrom_38 : decode cX5_copyFrom 38 = .ok (.getfield 26, 3) := by decide +kernel
theorem dX5_copyFrom_41 : decode cX5_copyFrom 41 = .ok (.iconst 0, 1) := by decide +kernel
theorem dX5_copyFrom_42 : decode cX5_copyFrom 42 = .ok (.aload_n 0, 1) := by decide +kernel
theorem dX5_copyFrom_43 : decode cX5_copyFrom 43 = .ok (.getfield 26, 3) := by decide +kernel
theorem dX5_copyFrom_46 : decode cX5_copyFrom 46 = .ok (.iconst 0, 1) := by decide +kernel
theorem dX5_copyFrom_47 : decode cX5_copyFrom 47 = .ok (.aload_n 0, 1) := by decide +kernel
theorem dX5_copyFrom_48 : decode cX5_copyFrom 48 = .ok (.getfield 26, 3) := by decide +kernel
theorem dX5_copyFrom_51 : decode cX5_copyFrom 51 = .ok (.arraylength, 1) := by decide +kernel
theorem dX5_copyFrom_52 : decode cX5_copyFrom 52 = .ok (.invokestatic 43, 3) := by decide +kernel
theorem dX5_copyFrom_55 : decode cX5_copyFrom 55 = .ok (.aload_n 0, 1) := by decide +kernel
theorem dX5_copyFrom_56 : decode cX5_copyFrom 56 = .ok (.aload_n 1, 1) := by decide +kernel
theorem dX5_copyFrom_57 : decode cX5_copyFrom 57 = .ok (.getfield 29, 3) := by decide +kernel
theorem dX5_copyFrom_60 : decode cX5_copyFrom 60 = .ok (.putfield 29, 3) := by decide +kernel
theorem dX5_copyFrom_63 : decode cX5_copyFrom 63 = .ok (.return_, 1) := by decide +kernel
theorem dX5_partOfWord_0 : decode cX5_partOfWord 0 = .ok (.aload_n 0, 1) := by decide +kernel
theorem dX5_partOfWord_1 : decode cX5_partOfWord 1 = .ok (.getfield 22, 3) := by decide +kernel
theorem dX5_partOfWord_4 : decode cX5_partOfWord 4 = .ok (.iload_n 1, 1) := by decide +kernel
theorem dX5_partOfWord_5 : decode cX5_partOfWord 5 = .ok (.iconst 3, 1) := by decide +kernel
theorem dX5_partOfWord_6 : decode cX5_partOfWord 6 = .ok (.imul, 1) := by decide +kernel
theorem dX5_partOfWord_7 : decode cX5_partOfWord 7 = .ok (.iload_n 2, 1) := by decide +kernel
theorem dX5_partOfWord_8 : decode cX5_partOfWord 8 = .ok (.iadd, 1) := by decide +kernel
theorem dX5_partOfWord_9 : decode cX5_partOfWord 9 = .ok (.iaload, 1) := by decide +kernel
theorem dX5_partOfWord_10 : decode cX5_partOfWord 10 = .ok (.ireturn, 1) := by decide +kernel
theorem dX5_putWord_0 : decode cX5_putWord 0 = .ok (.aload_n 0, 1) := by decide +kernel
theorem dX5_putWord_1 : decode cX5_putWord 1 = .ok (.getfield 22, 3) := by decide +kernel
theorem dX5_putWord_4 : decode cX5_putWord 4 = .ok (.iload_n 1, 1) := by decide +kernel
theorem dX5_putWord_5 : decode cX5_putWord 5 = .ok (.iconst 3, 1) := by decide +kernel
theorem dX5_putWord_6 : decode cX5_putWord 6 = .ok (.imul, 1) := by decide +kernel
theorem dX5_putWord_7 : decode cX5_putWord 7 = .ok (.iconst 0, 1) := by decide +kernel
theorem dX5_putWord_8 : decode cX5_putWord 8 = .ok (.iadd, 1) := by decide +kernel
theorem dX5_putWord_9 : decode cX5_putWord 9 = .ok (.iload_n 2, 1) := by decide +kernel
theorem dX5_putWord_10 : decode cX5_putWord 10 = .ok (.iastore, 1) := by decide +kernel
theorem dX5_putWord_11 : decode cX5_putWord 11 = .ok (.aload_n 0, 1) := by decide +kernel
theorem dX5_putWord_12 : decode cX5_putWord 12 = .ok (.getfield 22, 3) := by decide +kernel
theorem dX5_putWord_15 : decode cX5_putWord 15 = .ok (.iload_n 1, 1) := by decide +kernel
theorem dX5_putWord_16 : decode cX5_putWord 16 = .ok (.iconst 3, 1) := by decide +kernel
theorem dX5_putWord_17 : decode cX5_putWord 17 = .ok (.imul, 1) := by decide +kernel
theorem dX5_putWord_18 : decode cX5_putWord 18 = .ok (.iconst 1, 1) := by decide +kernel
theorem dX5_putWord_19 : decode cX5_putWord 19 = .ok (.iadd, 1) := by decide +kernel
theorem dX5_putWord_20 : decode cX5_putWord 20 = .ok (.iload_n 3, 1) := by decide +kernel
theorem dX5_putWord_21 : decode cX5_putWord 21 = .ok (.iastore, 1) := by decide +kernel
theorem dX5_putWord_22 : decode cX5_putWord 22 = .ok (.aload_n 0, 1) := by decide +kernel
theorem dX5_putWord_23 : decode cX5_putWord 23 = .ok (.getfield 22, 3) := by decide +kernel
theorem dX5_putWord_26 : decode cX5_putWord 26 = .ok (.iload_n 1, 1) := by decide +kernel
theorem dX5_putWord_27 : decode cX5_putWord 27 = .ok (.iconst 3, 1) := by decide +kernel
theorem dX5_putWord_28 : decode cX5_putWord 28 = .ok (.imul, 1) := by decide +kernel
theorem dX5_putWord_29 : decode cX5_putWord 29 = .ok (.iconst 2, 1) := by decide +kernel
theorem dX5_putWord_30 : decode cX5_putWord 30 = .ok (.iadd, 1) := by decide +kernel
theorem dX5_putWord_31 : decode cX5_putWord 31 = .ok (.iload 4, 2) := by decide +kernel
theorem dX5_putWord_33 : decode cX5_putWord 33 = .ok (.iastore, 1) := by decide +kernel
theorem dX5_putWord_34 : decode cX5_putWord 34 = .ok (.return_, 1) := by decide +kernel
theorem dX6_init_0 : decode cX6_init 0 = .ok (.aload_n 0, 1) := by decide +kernel
theorem dX6_init_1 : decode cX6_init 1 = .ok (.invokespecial 3, 3) := by decide +kernel
theorem dX6_init_4 : decode cX6_init 4 = .ok (.aload_n 0, 1) := by decide +kernel
theorem dX6_init_5 : decode cX6_init 5 = .ok (.iconst 0, 1) := by decide +kernel
theorem dX6_init_6 : decode cX6_init 6 = .ok (.putfield 9, 3) := by decide +kernel
theorem dX6_init_9 : decode cX6_init 9 = .ok (.aload_n 0, 1) := by decide +kernel
theorem dX6_init_10 : decode cX6_init 10 = .ok (.bipush 42, 2) := by decide +kernel
theorem dX6_init_12 : decode cX6_init 12 = .ok (.newarray .int, 2) := by decide +kernel
theorem dX6_init_14 : decode cX6_init 14 = .ok (.putfield 15, 3) := by decide +kernel
theorem dX6_init_17 : decode cX6_init 17 = .ok (.aload_n 0, 1) := by decide +kernel
theorem dX6_init_18 : decode cX6_init 18 = .ok (.iconst 0, 1) := by decide +kernel
theorem dX6_init_19 : decode cX6_init 19 = .ok (.putfield 19, 3) := by decide +kernel
theorem dX6_init_22 : decode cX6_init 22 = .ok (.return_, 1) := by decide +kernel
theorem dX6_read_0 : decode cX6_read 0 = .ok (.aload_n 0, 1) := by decide +kernel
theorem dX6_read_1 : decode cX6_read 1 = .ok (.iconst 0, 1) := by decide +kernel
theorem dX6_read_2 : decode cX6_read 2 = .ok (.putfield 9, 3) := by decide +kernel
theorem dX6_read_5 : decode cX6_read 5 = .ok (.aload_n 0, 1) := by decide +kernel
theorem dX6_read_6 : decode cX6_read 6 = .ok (.iconst 0, 1) := by decide +kernel
theorem dX6_read_7 : decode cX6_read 7 = .ok (.putfield 19, 3) := by decide +kernel
theorem dX6_read_10 : decode cX6_read 10 = .ok (.iconst 0, 1) := by decide +kernel
theorem dX6_read_11 : decode cX6_read 11 = .ok (.istore_n 3, 1) := by decide +kernel
theorem dX6_read_12 : decode cX6_read 12 = .ok (.iload_n 3, 1) := by decide +kernel
theorem dX6_read_13 : decode cX6_read 13 = .ok (.iload_n 2, 1) := by decide +kernel
theorem dX6_read_14 : decode cX6_read 14 = .ok (.if_icmp .ge 27, 3) := by decide +kernel
theorem dX6_read_17 : decode cX6_read 17 = .ok (.iload_n 3, 1) := by decide +kernel
theorem dX6_read_18 : decode cX6_read 18 = .ok (.aload_n 1, 1) := by decide +kernel
theorem dX6_read_19 : decode cX6_read 19 = .ok (.arraylength, 1) := by decide +kernel
theorem dX6_read_20 : decode cX6_read 20 = .ok (.if_icmp .ge 21, 3) := by decide +kernel
theorem dX6_read_23 : decode cX6_read 23 = .ok (.aload_n 0, 1) := by decide +kernel
theorem dX6_read_24 : decode cX6_read 24 = .ok (.aload_n 1, 1) := by decide +kernel
theorem dX6_read_25 : decode cX6_read 25 = .ok (.iload_n 3, 1) := by decide +kernel
theorem dX6_read_26 : decode cX6_read 26 = .ok (.iaload, 1) := by decide +kernel
theorem dX6_read_27 : decode cX6_read 27 = .ok (.invokevirtual 22, 3) := by decide +kernel
theorem dX6_read_30 : decode cX6_read 30 = .ok (.ifCond .ne 5, 3) := by decide +kernel
theorem dX6_read_33 : decode cX6_read 33 = .ok (.iload_n 3, 1) := by decide +kernel
theorem dX6_read_34 : decode cX6_read 34 = .ok (.ireturn, 1) := by decide +kernel
theorem dX6_read_35 : decode cX6_read 35 = .ok (.iinc 3 1, 3) := by decide +kernel
theorem dX6_read_38 : decode cX6_read 38 = .ok (.goto (-26), 3) := by decide +kernel
theorem dX6_read_41 : decode cX6_read 41 = .ok (.aload_n 0, 1) := by decide +kernel
theorem dX6_read_42 : decode cX6_read 42 = .ok (.getfield 19, 3) := by decide +kernel
theorem dX6_read_45 : decode cX6_read 45 = .ok (.iconst 4, 1) := by decide +kernel
theorem dX6_read_46 : decode cX6_read 46 = .ok (.if_icmp .ne 7, 3) := by decide +kernel
theorem dX6_read_49 : decode cX6_read 49 = .ok (.iload_n 2, 1) := by decide +kernel
theorem dX6_read_50 : decode cX6_read 50 = .ok (.goto 4, 3) := by decide +kernel
theorem dX6_read_53 : decode cX6_read 53 = .ok (.iconst (-1), 1) := by decide +kernel
theorem dX6_read_54 : decode cX6_read 54 = .ok (.ireturn, 1) := by decide +kernel
theorem dX6_accepts_0 : decode cX6_accepts 0 = .ok (.iload_n 1, 1) := by decide +kernel
theorem dX6_accepts_1 : decode cX6_accepts 1 = .ok (.invokestatic 26, 3) := by decide +kernel
theorem dX6_accepts_4 : decode cX6_accepts 4 = .ok (.ifCond .eq 39, 3) := by decide +kernel
theorem dX6_accepts_7 : decode cX6_accepts 7 = .ok (.aload_n 0, 1) := by decide +kernel
theorem dX6_accepts_8 : decode cX6_accepts 8 = .ok (.getfield 19, 3) := by decide +kernel
theorem dX6_accepts_11 : decode cX6_accepts 11 = .ok (.iconst 1, 1) := by decide +kernel
theorem dX6_accepts_12 : decode cX6_accepts 12 = .ok (.if_icmp .ne 10, 3) := by decide +kernel
theorem dX6_accepts_15 : decode cX6_accepts 15 = .ok (.aload_n 0, 1) := by decide +kernel
theorem dX6_accepts_16 : decode cX6_accepts 16 = .ok (.invokevirtual 29, 3) := by decide +kernel
theorem dX6_accepts_19 : decode cX6_accepts 19 = .ok (.goto 23, 3) := by decide +kernel
theorem dX6_accepts_22 : decode cX6_accepts 22 = .ok (.aload_n 0, 1) := by decide +kernel
theorem dX6_accepts_23 : decode cX6_accepts 23 = .ok (.getfield 19, 3) := by decide +kernel
theorem dX6_accepts_26 : decode cX6_accepts 26 = .ok (.iconst 2, 1) := by decide +kernel
theorem dX6_accepts_27 : decode cX6_accepts 27 = .ok (.if_icmp .eq 14, 3) := by decide +kernel
theorem dX6_accepts_30 : decode cX6_accepts 30 = .ok (.aload_n 0, 1) := by decide +kernel
theorem dX6_accepts_31 : decode cX6_accepts 31 = .ok (.invokevirtual 33, 3) := by decide +kernel
theorem dX6_accepts_34 : decode cX6_accepts 34 = .ok (.ifCond .eq 7, 3) := by decide +kernel
theorem dX6_accepts_37 : decode cX6_accepts 37 = .ok (.iconst 1, 1) := by decide +kernel
theorem dX6_accepts_38 : decode cX6_accepts 38 = .ok (.goto 4, 3) := by decide +kernel
theorem dX6_accepts_41 : decode cX6_accepts 41 = .ok (.iconst 0, 1) := by decide +kernel
theorem dX6_accepts_42 : decode cX6_accepts 42 = .ok (.ireturn, 1) := by decide +kernel
theorem dX6_accepts_43 : decode cX6_accepts 43 = .ok (.iload_n 1, 1) := by decide +kernel
theorem dX6_accepts_44 : decode cX6_accepts 44 = .ok (.lookupswitch 123 #[(32, 94), (33, 36), (47, 65)], 36) := by decide +kernel
theorem dX6_accepts_80 : decode cX6_accepts 80 = .ok (.aload_n 0, 1) := by decide +kernel
theorem dX6_accepts_81 : decode cX6_accepts 81 = .ok (.getfield 19, 3) := by decide +kernel
theorem dX6_accepts_84 : decode cX6_accepts 84 = .ok (.iconst 1, 1) := by decide +kernel
theorem dX6_accepts_85 : decode cX6_accepts 85 = .ok (.if_icmp .eq 11, 3) := by decide +kernel
theorem dX6_accepts_88 : decode cX6_accepts 88 = .ok (.aload_n 0, 1) := by decide +kernel
theorem dX6_accepts_89 : decode cX6_accepts 89 = .ok (.getfield 19, 3) := by decide +kernel
theorem dX6_accepts_92 : decode cX6_accepts 92 = .ok (.iconst 2, 1) := by decide +kernel
theorem dX6_accepts_93 : decode cX6_accepts 93 = .ok (.if_icmp .ne 14, 3) := by decide +kernel
theorem dX6_accepts_96 : decode cX6_accepts 96 = .ok (.aload_n 0, 1) := by decide +kernel
theorem dX6_accepts_97 : decode cX6_accepts 97 = .ok (.invokevirtual 36, 3) := by decide +kernel
theorem dX6_accepts_100 : decode cX6_accepts 100 = .ok (.ifCond .eq 7, 3) := by decide +kernel
theorem dX6_accepts_103 : decode cX6_accepts 103 = .ok (.iconst 1, 1) := by decide +kernel
theorem dX6_accepts_104 : decode cX6_accepts 104 = .ok (.goto 4, 3) := by decide +kernel
theorem dX6_accepts_107 : decode cX6_accepts 107 = .ok (.iconst 0, 1) := by decide +kernel
theorem dX6_accepts_108 : decode cX6_accepts 108 = .ok (.ireturn, 1) := by decide +kernel
theorem dX6_accepts_109 : decode cX6_accepts 109 = .ok (.aload_n 0, 1) := by decide +kernel
theorem dX6_accepts_110 : decode cX6_accepts 110 = .ok (.getfield 19, 3) := by decide +kernel
theorem dX6_accepts_113 : decode cX6_accepts 113 = .ok (.ifCond .eq 23, 3) := by decide +kernel
theorem dX6_accepts_116 : decode cX6_accepts 116 = .ok (.aload_n 0, 1) := by decide +kernel
theorem dX6_accepts_117 : decode cX6_accepts 117 = .ok (.getfield 19, 3) := by decide +kernel
theorem dX6_accepts_120 : decode cX6_accepts 120 = .ok (.iconst 4, 1) := by decide +kernel
theorem dX6_accepts_121 : decode cX6_accepts 121 = .ok (.if_icmp .eq 15, 3) := by decide +kernel
theorem dX6_accepts_124 : decode cX6_accepts 124 = .ok (.aload_n 0, 1) := by decide +kernel
theorem dX6_accepts_125 : decode cX6_accepts 125 = .ok (.iconst 4, 1) := by decide +kernel
theorem dX6_accepts_126 : decode cX6_accepts 126 = .ok (.invokevirtual 39, 3) := by decide +kernel
theorem dX6_accepts_129 : decode cX6_accepts 129 = .ok (.ifCond .eq 7, 3) := by decide +kernel
theorem dX6_accepts_132 : decode cX6_accepts 132 = .ok (.iconst 1, 1) := by decide +kernel
theorem dX6_accepts_133 : decode cX6_accepts 133 = .ok (.goto 4, 3) := by decide +kernel
theorem dX6_accepts_136 : decode cX6_accepts 136 = .ok (.iconst 0, 1) := by decide +kernel
theorem dX6_accepts_137 : decode cX6_accepts 137 = .ok (.ireturn, 1) := by decide +kernel
theorem dX6_accepts_138 : decode cX6_accepts 138 = .ok (.aload_n 0, 1) := by decide +kernel
theorem dX6_accepts_139 : decode cX6_accepts 139 = .ok (.aload_n 0, 1) := by decide +kernel
theorem dX6_accepts_140 : decode cX6_accepts 140 = .ok (.getfield 19, 3) := by decide +kernel
theorem dX6_accepts_143 : decode cX6_accepts 143 = .ok (.iconst 1, 1) := by decide +kernel
theorem dX6_accepts_144 : decode cX6_accepts 144 = .ok (.if_icmp .eq 11, 3) := by decide +kernel
theorem dX6_accepts_147 : decode cX6_accepts 147 = .ok (.aload_n 0, 1) := by decide +kernel
theorem dX6_accepts_148 : decode cX6_accepts 148 = .ok (.getfield 19, 3) := by decide +kernel
theorem dX6_accepts_151 : decode cX6_accepts 151 = .ok (.iconst 2, 1) := by decide +kernel
theorem dX6_accepts_152 : decode cX6_accepts 152 = .ok (.if_icmp .ne 7, 3) := by decide +kernel
theorem dX6_accepts_155 : decode cX6_accepts 155 = .ok (.iconst 3, 1) := by decide +kernel
theorem dX6_accepts_156 : decode cX6_accepts 156 = .ok (.goto 7, 3) := by decide +kernel
theorem dX6_accepts_159 : decode cX6_accepts 159 = .ok (.aload_n 0, 1) := by decide +kernel
theorem dX6_accepts_160 : decode cX6_accepts 160 = .ok (.getfield 19, 3) := by decide +kernel
theorem dX6_accepts_163 : decode cX6_accepts 163 = .ok (.invokevirtual 39, 3) := by decide +kernel
theorem dX6_accepts_166 : decode cX6_accepts 166 = .ok (.ireturn, 1) := by decide +kernel
theorem dX6_accepts_167 : decode cX6_accepts 167 = .ok (.iconst 0, 1) := by decide +kernel
theorem dX6_accepts_168 : decode cX6_accepts 168 = .ok (.ireturn, 1) := by decide +kernel
theorem dX6_isLetter_0 : decode cX6_isLetter 0 = .ok (.iload_n 0, 1) := by decide +kernel
theorem dX6_isLetter_1 : decode cX6_isLetter 1 = .ok (.bipush 65, 2) := by decide +kernel
theorem dX6_isLetter_3 : decode cX6_isLetter 3 = .ok (.bipush 90, 2) := by decide +kernel
theorem dX6_isLetter_5 : decode cX6_isLetter 5 = .ok (.invokestatic 42, 3) := by decide +kernel
theorem dX6_isLetter_8 : decode cX6_isLetter 8 = .ok (.ifCond .ne 14, 3) := by decide +kernel
theorem dX6_isLetter_11 : decode cX6_isLetter 11 = .ok (.iload_n 0, 1) := by decide +kernel
theorem dX6_isLetter_12 : decode cX6_isLetter 12 = .ok (.bipush 97, 2) := by decide +kernel
theorem dX6_isLetter_14 : decode cX6_isLetter 14 = .ok (.bipush 122, 2) := by decide +kernel
theorem dX6_isLetter_16 : decode cX6_isLetter 16 = .ok (.invokestatic 42, 3) := by decide +kernel
theorem dX6_isLetter_19 : decode cX6_isLetter 19 = .ok (.ifCond .eq 7, 3) := by decide +kernel
theorem dX6_isLetter_22 : decode cX6_isLetter 22 = .ok (.iconst 1, 1) := by decide +kernel
theorem dX6_isLetter_23 : decode cX6_isLetter 23 = .ok (.goto 4, 3) := by decide +kernel
theorem dX6_isLetter_26 : decode cX6_isLetter 26 = .ok (.iconst 0, 1) := by decide +kernel
theorem dX6_isLetter_27 : decode cX6_isLetter 27 = .ok (.ireturn, 1) := by decide +kernel
theorem dX6_goTo_0 : decode cX6_goTo 0 = .ok (.aload_n 0, 1) := by decide +kernel
theorem dX6_goTo_1 : decode cX6_goTo 1 = .ok (.iload_n 1, 1) := by decide +kernel
theorem dX6_goTo_2 : decode cX6_goTo 2 = .ok (.putfield 19, 3) := by decide +kernel
theorem dX6_goTo_5 : decode cX6_goTo 5 = .ok (.iconst 1, 1) := by decide +kernel
theorem dX6_goTo_6 : decode cX6_goTo 6 = .ok (.ireturn, 1) := by decide +kernel
theorem dX6_beginWord_0 : decode cX6_beginWord 0 = .ok (.aload_n 0, 1) := by decide +kernel
theorem dX6_beginWord_1 : decode cX6_beginWord 1 = .ok (.getfield 9, 3) := by decide +kernel
theorem dX6_beginWord_4 : decode cX6_beginWord 4 = .ok (.bipush 14, 2) := by decide +kernel
theorem dX6_beginWord_6 : decode cX6_beginWord 6 = .ok (.if_icmp .lt 5, 3) := by decide +kernel
theorem dX6_beginWord_9 : decode cX6_beginWord 9 = .ok (.iconst 0, 1) := by decide +kernel
theorem dX6_beginWord_10 : decode cX6_beginWord 10 = .ok (.ireturn, 1) := by decide +kernel
theorem dX6_beginWord_11 : decode cX6_beginWord 11 = .ok (.aload_n 0, 1) := by decide +kernel
theorem dX6_beginWord_12 : decode cX6_beginWord 12 = .ok (.getfield 9, 3) := by decide +kernel
theorem dX6_beginWord_15 : decode cX6_beginWord 15 = .ok (.iconst 3, 1) := by decide +kernel
theorem dX6_beginWord_16 : decode cX6_beginWord 16 = .ok (.imul, 1) := by decide +kernel
theorem dX6_beginWord_17 : decode cX6_beginWord 17 = .ok (.istore_n 1, 1) := by decide +kernel
theorem dX6_beginWord_18 : decode cX6_beginWord 18 = .ok (.aload_n 0, 1) := by decide +kernel
theorem dX6_beginWord_19 : decode cX6_beginWord 19 = .ok (.getfield 15, 3) := by decide +kernel
theorem dX6_beginWord_22 : decode cX6_beginWord 22 = .ok (.iload_n 1, 1) := by decide +kernel
theorem dX6_beginWord_23 : decode cX6_beginWord 23 = .ok (.iconst 0, 1) := by decide +kernel
theorem dX6_beginWord_24 : decode cX6_beginWord 24 = .ok (.iadd, 1) := by decide +kernel
theorem dX6_beginWord_25 : decode cX6_beginWord 25 = .ok (.iconst 1, 1) := by decide +kernel
theorem dX6_beginWord_26 : decode cX6_beginWord 26 = .ok (.iastore, 1) := by decide +kernel
theorem dX6_beginWord_27 : decode cX6_beginWord 27 = .ok (.aload_n 0, 1) := by decide +kernel
theorem dX6_beginWord_28 : decode cX6_beginWord 28 = .ok (.getfield 15, 3) := by decide +kernel
theorem dX6_beginWord_31 : decode cX6_beginWord 31 = .ok (.iload_n 1, 1) := by decide +kernel
theorem dX6_beginWord_32 : decode cX6_beginWord 32 = .ok (.iconst 1, 1) := by decide +kernel
theorem dX6_beginWord_33 : decode cX6_beginWord 33 = .ok (.iadd, 1) := by decide +kernel
theorem dX6_beginWord_34 : decode cX6_beginWord 34 = .ok (.iconst 1, 1) := by decide +kernel
theorem dX6_beginWord_35 : decode cX6_beginWord 35 = .ok (.iastore, 1) := by decide +kernel
theorem dX6_beginWord_36 : decode cX6_beginWord 36 = .ok (.aload_n 0, 1) := by decide +kernel
theorem dX6_beginWord_37 : decode cX6_beginWord 37 = .ok (.getfield 15, 3) := by decide +kernel
theorem dX6_beginWord_40 : decode cX6_beginWord 40 = .ok (.iload_n 1, 1) := by decide +kernel
theorem dX6_beginWord_41 : decode cX6_beginWord 41 = .ok (.iconst 2, 1) := by decide +kernel
theorem dX6_beginWord_42 : decode cX6_beginWord 42 = .ok (.iadd, 1) := by decide +kernel
theorem dX6_beginWord_43 : decode cX6_beginWord 43 = .ok (.aload_n 0, 1) := by decide +kernel
theorem dX6_beginWord_44 : decode cX6_beginWord 44 = .ok (.getfield 19, 3) := by decide +kernel
theorem dX6_beginWord_47 : decode cX6_beginWord 47 = .ok (.iconst 4, 1) := by decide +kernel
theorem dX6_beginWord_48 : decode cX6_beginWord 48 = .ok (.if_icmp .ne 7, 3) := by decide +kernel
theorem dX6_beginWord_51 : decode cX6_beginWord 51 = .ok (.iconst 1, 1) := by decide +kernel
theorem dX6_beginWord_52 : decode cX6_beginWord 52 = .ok (.goto 4, 3) := by decide +kernel
theorem dX6_beginWord_55 : decode cX6_beginWord 55 = .ok (.iconst 0, 1) := by decide +kernel
theorem dX6_beginWord_56 : decode cX6_beginWord 56 = .ok (.iastore, 1) := by decide +kernel
theorem dX6_beginWord_57 : decode cX6_beginWord 57 = .ok (.aload_n 0, 1) := by decide +kernel
theorem dX6_beginWord_58 : decode cX6_beginWord 58 = .ok (.dup, 1) := by decide +kernel
theorem dX6_beginWord_59 : decode cX6_beginWord 59 = .ok (.getfield 9, 3) := by decide +kernel
theorem dX6_beginWord_62 : decode cX6_beginWord 62 = .ok (.iconst 1, 1) := by decide +kernel
theorem dX6_beginWord_63 : decode cX6_beginWord 63 = .ok (.iadd, 1) := by decide +kernel
theorem dX6_beginWord_64 : decode cX6_beginWord 64 = .ok (.putfield 9, 3) := by decide +kernel
theorem dX6_beginWord_67 : decode cX6_beginWord 67 = .ok (.aload_n 0, 1) := by decide +kernel
theorem dX6_beginWord_68 : decode cX6_beginWord 68 = .ok (.iconst 1, 1) := by decide +kernel
theorem dX6_beginWord_69 : decode cX6_beginWord 69 = .ok (.invokevirtual 39, 3) := by decide +kernel
theorem dX6_beginWord_72 : decode cX6_beginWord 72 = .ok (.ireturn, 1) := by decide +kernel
theorem dX6_addLetter_0 : decode cX6_addLetter 0 = .ok (.aload_n 0, 1) := by decide +kernel
theorem dX6_addLetter_1 : decode cX6_addLetter 1 = .ok (.bipush 12, 2) := by decide +kernel
theorem dX6_addLetter_3 : decode cX6_addLetter 3 = .ok (.iconst 0, 1) := by decide +kernel
theorem dX6_addLetter_4 : decode cX6_addLetter 4 = .ok (.invokevirtual 46, 3) := by decide +kernel
theorem dX6_addLetter_7 : decode cX6_addLetter 7 = .ok (.ifCond .eq 15, 3) := by decide +kernel
theorem dX6_addLetter_10 : decode cX6_addLetter 10 = .ok (.aload_n 0, 1) := by decide +kernel
theorem dX6_addLetter_11 : decode cX6_addLetter 11 = .ok (.iconst 1, 1) := by decide +kernel
theorem dX6_addLetter_12 : decode cX6_addLetter 12 = .ok (.invokevirtual 39, 3) := by decide +kernel
theorem dX6_addLetter_15 : decode cX6_addLetter 15 = .ok (.ifCond .eq 7, 3) := by decide +kernel
theorem dX6_addLetter_18 : decode cX6_addLetter 18 = .ok (.iconst 1, 1) := by decide +kernel
theorem dX6_addLetter_19 : decode cX6_addLetter 19 = .ok (.goto 4, 3) := by decide +kernel
theorem dX6_addLetter_22 : decode cX6_addLetter 22 = .ok (.iconst 0, 1) := by decide +kernel
theorem dX6_addLetter_23 : decode cX6_addLetter 23 = .ok (.ireturn, 1) := by decide +kernel
theorem dX6_addShout_0 : decode cX6_addShout 0 = .ok (.aload_n 0, 1) := by decide +kernel
theorem dX6_addShout_1 : decode cX6_addShout 1 = .ok (.iconst 3, 1) := by decide +kernel
theorem dX6_addShout_2 : decode cX6_addShout 2 = .ok (.iconst 1, 1) := by decide +kernel
theorem dX6_addShout_3 : decode cX6_addShout 3 = .ok (.invokevirtual 46, 3) := by decide +kernel
theorem dX6_addShout_6 : decode cX6_addShout 6 = .ok (.ifCond .eq 15, 3) := by decide +kernel
theorem dX6_addShout_9 : decode cX6_addShout 9 = .ok (.aload_n 0, 1) := by decide +kernel
theorem dX6_addShout_10 : decode cX6_addShout 10 = .ok (.iconst 2, 1) := by decide +kernel
theorem dX6_addShout_11 : decode cX6_addShout 11 = .ok (.invokevirtual 39, 3) := by decide +kernel
theorem dX6_addShout_14 : decode cX6_addShout 14 = .ok (.ifCond .eq 7, 3) := by decide +kernel
theorem dX6_addShout_17 : decode cX6_addShout 17 = .ok (.iconst 1, 1) := by decide +kernel
theorem dX6_addShout_18 : decode cX6_addShout 18 = .ok (.goto 4, 3) := by decide +kernel
theorem dX6_addShout_21 : decode cX6_addShout 21 = .ok (.iconst 0, 1) := by decide +kernel
theorem dX6_addShout_22 : decode cX6_addShout 22 = .ok (.ireturn, 1) := by decide +kernel
theorem dX6_addUpTo_0 : decode cX6_addUpTo 0 = .ok (.aload_n 0, 1) := by decide +kernel
theorem dX6_addUpTo_1 : decode cX6_addUpTo 1 = .ok (.getfield 9, 3) := by decide +kernel
theorem dX6_addUpTo_4 : decode cX6_addUpTo 4 = .ok (.iconst 1, 1) := by decide +kernel
theorem dX6_addUpTo_5 : decode cX6_addUpTo 5 = .ok (.isub, 1) := by decide +kernel
theorem dX6_addUpTo_6 : decode cX6_addUpTo 6 = .ok (.iconst 3, 1) := by decide +kernel
theorem dX6_addUpTo_7 : decode cX6_addUpTo 7 = .ok (.imul, 1) := by decide +kernel
theorem dX6_addUpTo_8 : decode cX6_addUpTo 8 = .ok (.iload_n 2, 1) := by decide +kernel
theorem dX6_addUpTo_9 : decode cX6_addUpTo 9 = .ok (.iadd, 1) := by decide +kernel
theorem dX6_addUpTo_10 : decode cX6_addUpTo 10 = .ok (.istore_n 3, 1) := by decide +kernel
theorem dX6_addUpTo_11 : decode cX6_addUpTo 11 = .ok (.iload_n 3, 1) := by decide +kernel
theorem dX6_addUpTo_12 : decode cX6_addUpTo 12 = .ok (.ifCond .lt 13, 3) := by decide +kernel
theorem dX6_addUpTo_15 : decode cX6_addUpTo 15 = .ok (.aload_n 0, 1) := by decide +kernel
theorem dX6_addUpTo_16 : decode cX6_addUpTo 16 = .ok (.getfield 15, 3) := by decide +kernel
theorem dX6_addUpTo_19 : decode cX6_addUpTo 19 = .ok (.iload_n 3, 1) := by decide +kernel
theorem dX6_addUpTo_20 : decode cX6_addUpTo 20 = .ok (.iaload, 1) := by decide +kernel
theorem dX6_addUpTo_21 : decode cX6_addUpTo 21 = .ok (.iload_n 1, 1) := by decide +kernel
theorem dX6_addUpTo_22 : decode cX6_addUpTo 22 = .ok (.if_icmp .lt 5, 3) := by decide +kernel
theorem dX6_addUpTo_25 : decode cX6_addUpTo 25 = .ok (.iconst 0, 1) := by decide +kernel
theorem dX6_addUpTo_26 : decode cX6_addUpTo 26 = .ok (.ireturn, 1) := by decide +kernel
theorem dX6_addUpTo_27 : decode cX6_addUpTo 27 = .ok (.aload_n 0, 1) := by decide +kernel
theorem dX6_addUpTo_28 : decode cX6_addUpTo 28 = .ok (.getfield 15, 3) := by decide +kernel
theorem dX6_addUpTo_31 : decode cX6_addUpTo 31 = .ok (.iload_n 3, 1) := by decide +kernel
theorem dX6_addUpTo_32 : decode cX6_addUpTo 32 = .ok (.dup2, 1) := by decide +kernel
theorem dX6_addUpTo_33 : decode cX6_addUpTo 33 = .ok (.iaload, 1) := by decide +kernel
theorem dX6_addUpTo_34 : decode cX6_addUpTo 34 = .ok (.iconst 1, 1) := by decide +kernel
theorem dX6_addUpTo_35 : decode cX6_addUpTo 35 = .ok (.iadd, 1) := by decide +kernel
theorem dX6_addUpTo_36 : decode cX6_addUpTo 36 = .ok (.iastore, 1) := by decide +kernel
theorem dX6_addUpTo_37 : decode cX6_addUpTo 37 = .ok (.iconst 1, 1) := by decide +kernel
theorem dX6_addUpTo_38 : decode cX6_addUpTo 38 = .ok (.ireturn, 1) := by decide +kernel
theorem dX7_init_0 : decode cX7_init 0 = .ok (.aload_n 0, 1) := by decide +kernel
theorem dX7_init_1 : decode cX7_init 1 = .ok (.invokespecial 1, 3) := by decide +kernel
theorem dX7_init_4 : decode cX7_init 4 = .ok (.aload_n 0, 1) := by decide +kernel
theorem dX7_init_5 : decode cX7_init 5 = .ok (.new 7, 3) := by decide +kernel
theorem dX7_init_8 : decode cX7_init 8 = .ok (.dup, 1) := by decide +kernel
theorem dX7_init_9 : decode cX7_init 9 = .ok (.invokespecial 9, 3) := by decide +kernel
theorem dX7_init_12 : decode cX7_init 12 = .ok (.putfield 10, 3) := by decide +kernel
theorem dX7_init_15 : decode cX7_init 15 = .ok (.aload_n 0, 1) := by decide +kernel
theorem dX7_init_16 : decode cX7_init 16 = .ok (.iconst 4, 1) := by decide +kernel
theorem dX7_init_17 : decode cX7_init 17 = .ok (.anewarray 7, 3) := by decide +kernel
theorem dX7_init_20 : decode cX7_init 20 = .ok (.putfield 16, 3) := by decide +kernel
theorem dX7_init_23 : decode cX7_init 23 = .ok (.aload_n 0, 1) := by decide +kernel
theorem dX7_init_24 : decode cX7_init 24 = .ok (.iconst 0, 1) := by decide +kernel
theorem dX7_init_25 : decode cX7_init 25 = .ok (.putfield 20, 3) := by decide +kernel
theorem dX7_init_28 : decode cX7_init 28 = .ok (.aload_n 0, 1) := by decide +kernel
theorem dX7_init_29 : decode cX7_init 29 = .ok (.bipush 80, 2) := by decide +kernel
theorem dX7_init_31 : decode cX7_init 31 = .ok (.newarray .int, 2) := by decide +kernel
theorem dX7_init_33 : decode cX7_init 33 = .ok (.putfield 24, 3) := by decide +kernel
theorem dX7_init_36 : decode cX7_init 36 = .ok (.aload_n 0, 1) := by decide +kernel
theorem dX7_init_37 : decode cX7_init 37 = .ok (.iconst 0, 1) := by decide +kernel
theorem dX7_init_38 : decode cX7_init 38 = .ok (.putfield 28, 3) := by decide +kernel
theorem dX7_init_41 : decode cX7_init 41 = .ok (.aload_n 0, 1) := by decide +kernel
theorem dX7_init_42 : decode cX7_init 42 = .ok (.new 31, 3) := by decide +kernel
theorem dX7_init_45 : decode cX7_init 45 = .ok (.dup, 1) := by decide +kernel
theorem dX7_init_46 : decode cX7_init 46 = .ok (.invokespecial 33, 3) := by decide +kernel
theorem dX7_init_49 : decode cX7_init 49 = .ok (.putfield 34, 3) := by decide +kernel
theorem dX7_init_52 : decode cX7_init 52 = .ok (.aload_n 0, 1) := by decide +kernel
theorem dX7_init_53 : decode cX7_init 53 = .ok (.new 38, 3) := by decide +kernel
theorem dX7_init_56 : decode cX7_init 56 = .ok (.dup, 1) := by decide +kernel
theorem dX7_init_57 : decode cX7_init 57 = .ok (.invokespecial 40, 3) := by decide +kernel
theorem dX7_init_60 : decode cX7_init 60 = .ok (.putfield 41, 3) := by decide +kernel
theorem dX7_init_63 : decode cX7_init 63 = .ok (.iconst 0, 1) := by decide +kernel
theorem dX7_init_64 : decode cX7_init 64 = .ok (.istore_n 1, 1) := by decide +kernel
theorem dX7_init_65 : decode cX7_init 65 = .ok (.iload_n 1, 1) := by decide +kernel
theorem dX7_init_66 : decode cX7_init 66 = .ok (.iconst 4, 1) := by decide +kernel
theorem dX7_init_67 : decode cX7_init 67 = .ok (.if_icmp .ge 22, 3) := by decide +kernel
theorem dX7_init_70 : decode cX7_init 70 = .ok (.aload_n 0, 1) := by decide +kernel
theorem dX7_init_71 : decode cX7_init 71 = .ok (.getfield 16, 3) := by decide +kernel
theorem dX7_init_74 : decode cX7_init 74 = .ok (.iload_n 1, 1) := by decide +kernel
theorem dX7_init_75 : decode cX7_init 75 = .ok (.new 7, 3) := by decide +kernel
theorem dX7_init_78 : decode cX7_init 78 = .ok (.dup, 1) := by decide +kernel
theorem dX7_init_79 : decode cX7_init 79 = .ok (.invokespecial 9, 3) := by decide +kernel
theorem dX7_init_82 : decode cX7_init 82 = .ok (.aastore, 1) := by decide +kernel
theorem dX7_init_83 : decode cX7_init 83 = .ok (.iinc 1 1, 3) := by decide +kernel
theorem dX7_init_86 : decode cX7_init 86 = .ok (.goto (-21), 3) := by decide +kernel
theorem dX7_init_89 : decode cX7_init 89 = .ok (.return_, 1) := by decide +kernel
theorem dX7_addShape_0 : decode cX7_addShape 0 = .ok (.iload_n 1, 1) := by decide +kernel
theorem dX7_addShape_1 : decode cX7_addShape 1 = .ok (.iconst 0, 1) := by decide +kernel
theorem dX7_addShape_2 : decode cX7_addShape 2 = .ok (.iconst 3, 1) := by decide +kernel
theorem dX7_addShape_3 : decode cX7_addShape 3 = .ok (.invokestatic 45, 3) := by decide +kernel
theorem dX7_addShape_6 : decode cX7_addShape 6 = .ok (.ifCond .eq 15, 3) := by decide +kernel
theorem dX7_addShape_9 : decode cX7_addShape 9 = .ok (.iload_n 2, 1) := by decide +kernel
theorem dX7_addShape_10 : decode cX7_addShape 10 = .ok (.iload_n 3, 1) := by decide +kernel
theorem dX7_addShape_11 : decode cX7_addShape 11 = .ok (.iload 4, 2) := by decide +kernel
theorem dX7_addShape_13 : decode cX7_addShape 13 = .ok (.iload 5, 2) := by decide +kernel
theorem dX7_addShape_15 : decode cX7_addShape 15 = .ok (.invokestatic 49, 3) := by decide +kernel
theorem dX7_addShape_18 : decode cX7_addShape 18 = .ok (.ifCond .ne 6, 3) := by decide +kernel
theorem dX7_addShape_21 : decode cX7_addShape 21 = .ok (.bipush (-3), 2) := by decide +kernel
theorem dX7_addShape_23 : decode cX7_addShape 23 = .ok (.ireturn, 1) := by decide +kernel
theorem dX7_addShape_24 : decode cX7_addShape 24 = .ok (.aload_n 0, 1) := by decide +kernel
theorem dX7_addShape_25 : decode cX7_addShape 25 = .ok (.getfield 10, 3) := by decide +kernel
theorem dX7_addShape_28 : decode cX7_addShape 28 = .ok (.getfield 53, 3) := by decide +kernel
theorem dX7_addShape_31 : decode cX7_addShape 31 = .ok (.getfield 57, 3) := by decide +kernel
theorem dX7_addShape_34 : decode cX7_addShape 34 = .ok (.bipush 6, 2) := by decide +kernel
theorem dX7_addShape_36 : decode cX7_addShape 36 = .ok (.if_icmp .lt 6, 3) := by decide +kernel
theorem dX7_addShape_39 : decode cX7_addShape 39 = .ok (.bipush (-5), 2) := by decide +kernel
theorem dX7_addShape_41 : decode cX7_addShape 41 = .ok (.ireturn, 1) := by decide +kernel
theorem dX7_addShape_42 : decode cX7_addShape 42 = .ok (.aload_n 0, 1) := by decide +kernel
theorem dX7_addShape_43 : decode cX7_addShape 43 = .ok (.invokevirtual 62, 3) := by decide +kernel
theorem dX7_addShape_46 : decode cX7_addShape 46 = .ok (.aload_n 0, 1) := by decide +kernel
theorem dX7_addShape_47 : decode cX7_addShape 47 = .ok (.getfield 10, 3) := by decide +kernel
theorem dX7_addShape_50 : decode cX7_addShape 50 = .ok (.getfield 53, 3) := by decide +kernel
theorem dX7_addShape_53 : decode cX7_addShape 53 = .ok (.iload_n 1, 1) := by decide +kernel
theorem dX7_addShape_54 : decode cX7_addShape 54 = .ok (.iload_n 2, 1) := by decide +kernel
theorem dX7_addShape_55 : decode cX7_addShape 55 = .ok (.iload_n 3, 1) := by decide +kernel
theorem dX7_addShape_56 : decode cX7_addShape 56 = .ok (.iload 4, 2) := by decide +kernel
theorem dX7_addShape_58 : decode cX7_addShape 58 = .ok (.iload 5, 2) := by decide +kernel
theorem dX7_addShape_60 : decode cX7_addShape 60 = .ok (.invokevirtual 65, 3) := by decide +kernel
theorem dX7_addShape_63 : decode cX7_addShape 63 = .ok (.aload_n 0, 1) := by decide +kernel
theorem dX7_addShape_64 : decode cX7_addShape 64 = .ok (.getfield 10, 3) := by decide +kernel
theorem dX7_addShape_67 : decode cX7_addShape 67 = .ok (.getfield 53, 3) := by decide +kernel
theorem dX7_addShape_70 : decode cX7_addShape 70 = .ok (.getfield 57, 3) := by decide +kernel
theorem dX7_addShape_73 : decode cX7_addShape 73 = .ok (.iconst 1, 1) := by decide +kernel
theorem dX7_addShape_74 : decode cX7_addShape 74 = .ok (.isub, 1) := by decide +kernel
theorem dX7_addShape_75 : decode cX7_addShape 75 = .ok (.ireturn, 1) := by decide +kernel
theorem dX7_moveShape_0 : decode cX7_moveShape 0 = .ok (.iload_n 1, 1) := by decide +kernel
theorem dX7_moveShape_1 : decode cX7_moveShape 1 = .ok (.iconst 0, 1) := by decide +kernel
theorem dX7_moveShape_2 : decode cX7_moveShape 2 = .ok (.aload_n 0, 1) := by decide +kernel
theorem dX7_moveShape_3 : decode cX7_moveShape 3 = .ok (.getfield 10, 3) := by decide +kernel
theorem dX7_moveShape_6 : decode cX7_moveShape 6 = .ok (.getfield 53, 3) := by decide +kernel
theorem dX7_moveShape_9 : decode cX7_moveShape 9 = .ok (.getfield 57, 3) := by decide +kernel
theorem dX7_moveShape_12 : decode cX7_moveShape 12 = .ok (.iconst 1, 1) := by decide +kernel
theorem dX7_moveShape_13 : decode cX7_moveShape 13 = .ok (.isub, 1) := by decide +kernel
theorem dX7_moveShape_14 : decode cX7_moveShape 14 = .ok (.invokestatic 45, 3) := by decide +kernel
theorem dX7_moveShape_17 : decode cX7_moveShape 17 = .ok (.ifCond .ne 6, 3) := by decide +kernel
theorem dX7_moveShape_20 : decode cX7_moveShape 20 = .ok (.bipush (-2), 2) := by decide +kernel
theorem dX7_moveShape_22 : decode cX7_moveShape 22 = .ok (.ireturn, 1) := by decide +kernel
theorem dX7_moveShape_23 : decode cX7_moveShape 23 = .ok (.iload_n 2, 1) := by decide +kernel
theorem dX7_moveShape_24 : decode cX7_moveShape 24 = .ok (.bipush (-47), 2) := by decide +kernel
theorem dX7_moveShape_26 : decode cX7_moveShape 26 = .ok (.bipush 47, 2) := by decide +kernel
theorem dX7_moveShape_28 : decode cX7_moveShape 28 = .ok (.invokestatic 45, 3) := by decide +kernel
theorem dX7_moveShape_31 : decode cX7_moveShape 31 = .ok (.ifCond .eq 30, 3) := by decide +kernel
theorem dX7_moveShape_34 : decode cX7_moveShape 34 = .ok (.iload_n 3, 1) := by decide +kernel
theorem dX7_moveShape_35 : decode cX7_moveShape 35 = .ok (.bipush (-35), 2) := by decide +kernel
theorem dX7_moveShape_37 : decode cX7_moveShape 37 = .ok (.bipush 35, 2) := by decide +kernel
theorem dX7_moveShape_39 : decode cX7_moveShape 39 = .ok (.invokestatic 45, 3) := by decide +kernel
theorem dX7_moveShape_42 : decode cX7_moveShape 42 = .ok (.ifCond .eq 19, 3) := by decide +kernel
theorem dX7_moveShape_45 : decode cX7_moveShape 45 = .ok (.aload_n 0, 1) := by decide +kernel
theorem dX7_moveShape_46 : decode cX7_moveShape 46 = .ok (.getfield 10, 3) := by decide +kernel
theorem dX7_moveShape_49 : decode cX7_moveShape 49 = .ok (.getfield 53, 3) := by decide +kernel
theorem dX7_moveShape_52 : decode cX7_moveShape 52 = .ok (.iload_n 1, 1) := by decide +kernel
theorem dX7_moveShape_53 : decode cX7_moveShape 53 = .ok (.iload_n 2, 1) := by decide +kernel
theorem dX7_moveShape_54 : decode cX7_moveShape 54 = .ok (.iload_n 3, 1) := by decide +kernel
theorem dX7_moveShape_55 : decode cX7_moveShape 55 = .ok (.invokevirtual 69, 3) := by decide +kernel
theorem dX7_moveShape_58 : decode cX7_moveShape 58 = .ok (.ifCond .ne 6, 3) := by decide +kernel
theorem dX7_moveShape_61 : decode cX7_moveShape 61 = .ok (.bipush (-3), 2) := by decide +kernel
theorem dX7_moveShape_63 : decode cX7_moveShape 63 = .ok (.ireturn, 1) := by decide +kernel
theorem dX7_moveShape_64 : decode cX7_moveShape 64 = .ok (.aload_n 0, 1) := by decide +kernel
theorem dX7_moveShape_65 : decode cX7_moveShape 65 = .ok (.invokevirtual 62, 3) := by decide +kernel
theorem dX7_moveShape_68 : decode cX7_moveShape 68 = .ok (.aload_n 0, 1) := by decide +kernel
theorem dX7_moveShape_69 : decode cX7_moveShape 69 = .ok (.getfield 10, 3) := by decide +kernel
theorem dX7_moveShape_72 : decode cX7_moveShape 72 = .ok (.getfield 53, 3) := by decide +kernel
theorem dX7_moveShape_75 : decode cX7_moveShape 75 = .ok (.iload_n 1, 1) := by decide +kernel
theorem dX7_moveShape_76 : decode cX7_moveShape 76 = .ok (.iload_n 2, 1) := by decide +kernel
theorem dX7_moveShape_77 : decode cX7_moveShape 77 = .ok (.iload_n 3, 1) := by decide +kernel
theorem dX7_moveShape_78 : decode cX7_moveShape 78 = .ok (.invokevirtual 72, 3) := by decide +kernel
theorem dX7_moveShape_81 : decode cX7_moveShape 81 = .ok (.aload_n 0, 1) := by decide +kernel
theorem dX7_moveShape_82 : decode cX7_moveShape 82 = .ok (.getfield 10, 3) := by decide +kernel
theorem dX7_moveShape_85 : decode cX7_moveShape 85 = .ok (.getfield 53, 3) := by decide +kernel
theorem dX7_moveShape_88 : decode cX7_moveShape 88 = .ok (.invokevirtual 76, 3) := by decide +kernel
theorem dX7_moveShape_91 : decode cX7_moveShape 91 = .ok (.ireturn, 1) := by decide +kernel
theorem dX7_removeShape_0 : decode cX7_removeShape 0 = .ok (.iload_n 1, 1) := by decide +kernel
theorem dX7_removeShape_1 : decode cX7_removeShape 1 = .ok (.iconst 0, 1) := by decide +kernel
theorem dX7_removeShape_2 : decode cX7_removeShape 2 = .ok (.aload_n 0, 1) := by decide +kernel
theorem dX7_removeShape_3 : decode cX7_removeShape 3 = .ok (.getfield 10, 3) := by decide +kernel
theorem dX7_removeShape_6 : decode cX7_removeShape 6 = .ok (.getfield 53, 3) := by decide +kernel
theorem dX7_removeShape_9 : decode cX7_removeShape 9 = .ok (.getfield 57, 3) := by decide +kernel
theorem dX7_removeShape_12 : decode cX7_removeShape 12 = .ok (.iconst 1, 1) := by decide +kernel
theorem dX7_removeShape_13 : decode cX7_removeShape 13 = .ok (.isub, 1) := by decide +kernel
theorem dX7_removeShape_14 : decode cX7_removeShape 14 = .ok (.invokestatic 45, 3) := by decide +kernel
theorem dX7_removeShape_17 : decode cX7_removeShape 17 = .ok (.ifCond .ne 6, 3) := by decide +kernel
theorem dX7_removeShape_20 : decode cX7_removeShape 20 = .ok (.bipush (-2), 2) := by decide +kernel
theorem dX7_removeShape_22 : decode cX7_removeShape 22 = .ok (.ireturn, 1) := by decide +kernel
theorem dX7_removeShape_23 : decode cX7_removeShape 23 = .ok (.aload_n 0, 1) := by decide +kernel
theorem dX7_removeShape_24 : decode cX7_removeShape 24 = .ok (.invokevirtual 62, 3) := by decide +kernel
theorem dX7_removeShape_27 : decode cX7_removeShape 27 = .ok (.aload_n 0, 1) := by decide +kernel
theorem dX7_removeShape_28 : decode cX7_removeShape 28 = .ok (.getfield 10, 3) := by decide +kernel
theorem dX7_removeShape_31 : decode cX7_removeShape 31 = .ok (.getfield 53, 3) := by decide +kernel
theorem dX7_removeShape_34 : decode cX7_removeShape 34 = .ok (.iload_n 1, 1) := by decide +kernel
theorem dX7_removeShape_35 : decode cX7_removeShape 35 = .ok (.invokevirtual 80, 3) := by decide +kernel
theorem dX7_removeShape_38 : decode cX7_removeShape 38 = .ok (.aload_n 0, 1) := by decide +kernel
theorem dX7_removeShape_39 : decode cX7_removeShape 39 = .ok (.getfield 10, 3) := by decide +kernel
theorem dX7_removeShape_42 : decode cX7_removeShape 42 = .ok (.getfield 53, 3) := by decide +kernel
theorem dX7_removeShape_45 : decode cX7_removeShape 45 = .ok (.getfield 57, 3) := by decide +kernel
theorem dX7_removeShape_48 : decode cX7_removeShape 48 = .ok (.ireturn, 1) := by decide +kernel
theorem dX7_isFree_0 : decode cX7_isFree 0 = .ok (.iload_n 1, 1) := by decide +kernel
theorem dX7_isFree_1 : decode cX7_isFree 1 = .ok (.iconst 0, 1) := by decide +kernel
theorem dX7_isFree_2 : decode cX7_isFree 2 = .ok (.bipush 47, 2) := by decide +kernel
theorem dX7_isFree_4 : decode cX7_isFree 4 = .ok (.invokestatic 45, 3) := by decide +kernel
theorem dX7_isFree_7 : decode cX7_isFree 7 = .ok (.ifCond .eq 13, 3) := by decide +kernel
theorem dX7_isFree_10 : decode cX7_isFree 10 = .ok (.iload_n 2, 1) := by decide +kernel
theorem dX7_isFree_11 : decode cX7_isFree 11 = .ok (.iconst 0, 1) := by decide +kernel
theorem dX7_isFree_12 : decode cX7_isFree 12 = .ok (.bipush 35, 2) := by decide +kernel
theorem dX7_isFree_14 : decode cX7_isFree 14 = .ok (.invokestatic 45, 3) := by decide +kernel
theorem dX7_isFree_17 : decode cX7_isFree 17 = .ok (.ifCond .ne 6, 3) := by decide +kernel
theorem dX7_isFree_20 : decode cX7_isFree 20 = .ok (.bipush (-3), 2) := by decide +kernel
theorem dX7_isFree_22 : decode cX7_isFree 22 = .ok (.ireturn, 1) := by decide +kernel
theorem dX7_isFree_23 : decode cX7_isFree 23 = .ok (.aload_n 0, 1) := by decide +kernel
theorem dX7_isFree_24 : decode cX7_isFree 24 = .ok (.getfield 10, 3) := by decide +kernel
theorem dX7_isFree_27 : decode cX7_isFree 27 = .ok (.getfield 53, 3) := by decide +kernel
theorem dX7_isFree_30 : decode cX7_isFree 30 = .ok (.iload_n 1, 1) := by decide +kernel
theorem dX7_isFree_31 : decode cX7_isFree 31 = .ok (.iload_n 2, 1) := by decide +kernel
theorem dX7_isFree_32 : decode cX7_isFree 32 = .ok (.invokevirtual 84, 3) := by decide +kernel
theorem dX7_isFree_35 : decode cX7_isFree 35 = .ok (.ifCond .eq 7, 3) := by decide +kernel
theorem dX7_isFree_38 : decode cX7_isFree 38 = .ok (.iconst 1, 1) := by decide +kernel
theorem dX7_isFree_39 : decode cX7_isFree 39 = .ok (.goto 4, 3) := by decide +kernel
theorem dX7_isFree_42 : decode cX7_isFree 42 = .ok (.iconst 0, 1) := by decide +kernel
theorem dX7_isFree_43 : decode cX7_isFree 43 = .ok (.ireturn, 1) := by decide +kernel
theorem dX7_span_0 : decode cX7_span 0 = .ok (.iload_n 1, 1) := by decide +kernel
theorem dX7_span_1 : decode cX7_span 1 = .ok (.iload_n 2, 1) := by decide +kernel
theorem dX7_span_2 : decode cX7_span 2 = .ok (.invokestatic 88, 3) := by decide +kernel
theorem dX7_span_5 : decode cX7_span 5 = .ok (.ifCond .eq 12, 3) := by decide +kernel
theorem dX7_span_8 : decode cX7_span 8 = .ok (.iload_n 3, 1) := by decide +kernel
theorem dX7_span_9 : decode cX7_span 9 = .ok (.iconst 0, 1) := by decide +kernel
theorem dX7_span_10 : decode cX7_span 10 = .ok (.iconst 1, 1) := by decide +kernel
theorem dX7_span_11 : decode cX7_span 11 = .ok (.invokestatic 45, 3) := by decide +kernel
theorem dX7_span_14 : decode cX7_span 14 = .ok (.ifCond .ne 6, 3) := by decide +kernel
theorem dX7_span_17 : decode cX7_span 17 = .ok (.bipush (-3), 2) := by decide +kernel
theorem dX7_span_19 : decode cX7_span 19 = .ok (.ireturn, 1) := by decide +kernel
theorem dX7_span_20 : decode cX7_span 20 = .ok (.aload_n 0, 1) := by decide +kernel
theorem dX7_span_21 : decode cX7_span 21 = .ok (.getfield 41, 3) := by decide +kernel
theorem dX7_span_24 : decode cX7_span 24 = .ok (.getfield 91, 3) := by decide +kernel
theorem dX7_span_27 : decode cX7_span 27 = .ok (.aload_n 0, 1) := by decide +kernel
theorem dX7_span_28 : decode cX7_span 28 = .ok (.getfield 10, 3) := by decide +kernel
theorem dX7_span_31 : decode cX7_span 31 = .ok (.getfield 53, 3) := by decide +kernel
theorem dX7_span_34 : decode cX7_span 34 = .ok (.iload_n 2, 1) := by decide +kernel
theorem dX7_span_35 : decode cX7_span 35 = .ok (.invokevirtual 95, 3) := by decide +kernel
theorem dX7_span_38 : decode cX7_span 38 = .ok (.iload_n 3, 1) := by decide +kernel
theorem dX7_span_39 : decode cX7_span 39 = .ok (.ifCond .ne 18, 3) := by decide +kernel
theorem dX7_span_42 : decode cX7_span 42 = .ok (.aload_n 0, 1) := by decide +kernel
theorem dX7_span_43 : decode cX7_span 43 = .ok (.getfield 41, 3) := by decide +kernel
theorem dX7_span_46 : decode cX7_span 46 = .ok (.getfield 91, 3) := by decide +kernel
theorem dX7_span_49 : decode cX7_span 49 = .ok (.iload_n 1, 1) := by decide +kernel
theorem dX7_span_50 : decode cX7_span 50 = .ok (.iload_n 2, 1) := by decide +kernel
theorem dX7_span_51 : decode cX7_span 51 = .ok (.invokevirtual 101, 3) := by decide +kernel
theorem dX7_span_54 : decode cX7_span 54 = .ok (.goto 15, 3) := by decide +kernel
theorem dX7_span_57 : decode cX7_span 57 = .ok (.aload_n 0, 1) := by decide +kernel
theorem dX7_span_58 : decode cX7_span 58 = .ok (.getfield 41, 3) := by decide +kernel
theorem dX7_span_61 : decode cX7_span 61 = .ok (.getfield 91, 3) := by decide +kernel
theorem dX7_span_64 : decode cX7_span 64 = .ok (.iload_n 1, 1) := by decide +kernel
theorem dX7_span_65 : decode cX7_span 65 = .ok (.iload_n 2, 1) := by decide +kernel
theorem dX7_span_66 : decode cX7_span 66 = .ok (.invokevirtual 105, 3) := by decide +kernel
theorem dX7_span_69 : decode cX7_span 69 = .ok (.ireturn, 1) := by decide +kernel
theorem dX7_addWord_0 : decode cX7_addWord 0 = .ok (.iload_n 1, 1) := by decide +kernel
theorem dX7_addWord_1 : decode cX7_addWord 1 = .ok (.iconst 1, 1) := by decide +kernel
theorem dX7_addWord_2 : decode cX7_addWord 2 = .ok (.bipush 12, 2) := by decide +kernel
theorem dX7_addWord_4 : decode cX7_addWord 4 = .ok (.invokestatic 45, 3) := by decide +kernel
theorem dX7_addWord_7 : decode cX7_addWord 7 = .ok (.ifCond .eq 12, 3) := by decide +kernel
theorem dX7_addWord_10 : decode cX7_addWord 10 = .ok (.iload_n 2, 1) := by decide +kernel
theorem dX7_addWord_11 : decode cX7_addWord 11 = .ok (.iconst 1, 1) := by decide +kernel
theorem dX7_addWord_12 : decode cX7_addWord 12 = .ok (.iconst 3, 1) := by decide +kernel
theorem dX7_addWord_13 : decode cX7_addWord 13 = .ok (.invokestatic 45, 3) := by decide +kernel
theorem dX7_addWord_16 : decode cX7_addWord 16 = .ok (.ifCond .ne 6, 3) := by decide +kernel
theorem dX7_addWord_19 : decode cX7_addWord 19 = .ok (.bipush (-3), 2) := by decide +kernel
theorem dX7_addWord_21 : decode cX7_addWord 21 = .ok (.ireturn, 1) := by decide +kernel
theorem dX7_addWord_22 : decode cX7_addWord 22 = .ok (.aload_n 0, 1) := by decide +kernel
theorem dX7_addWord_23 : decode cX7_addWord 23 = .ok (.getfield 10, 3) := by decide +kernel
theorem dX7_addWord_26 : decode cX7_addWord 26 = .ok (.getfield 108, 3) := by decide +kernel
theorem dX7_addWord_29 : decode cX7_addWord 29 = .ok (.bipush 14, 2) := by decide +kernel
theorem dX7_addWord_31 : decode cX7_addWord 31 = .ok (.if_icmp .lt 6, 3) := by decide +kernel
theorem dX7_addWord_34 : decode cX7_addWord 34 = .ok (.bipush (-5), 2) := by decide +kernel
theorem dX7_addWord_36 : decode cX7_addWord 36 = .ok (.ireturn, 1) := by decide +kernel
theorem dX7_addWord_37 : decode cX7_addWord 37 = .ok (.aload_n 0, 1) := by decide +kernel
theorem dX7_addWord_38 : decode cX7_addWord 38 = .ok (.invokevirtual 62, 3) := by decide +kernel
theorem dX7_addWord_41 : decode cX7_addWord 41 = .ok (.aload_n 0, 1) := by decide +kernel
theorem dX7_addWord_42 : decode cX7_addWord 42 = .ok (.getfield 10, 3) := by decide +kernel
theorem dX7_addWord_45 : decode cX7_addWord 45 = .ok (.aload_n 0, 1) := by decide +kernel
theorem dX7_addWord_46 : decode cX7_addWord 46 = .ok (.getfield 10, 3) := by decide +kernel
theorem dX7_addWord_49 : decode cX7_addWord 49 = .ok (.getfield 108, 3) := by decide +kernel
theorem dX7_addWord_52 : decode cX7_addWord 52 = .ok (.iload_n 1, 1) := by decide +kernel
theorem dX7_addWord_53 : decode cX7_addWord 53 = .ok (.iload_n 2, 1) := by decide +kernel
theorem dX7_addWord_54 : decode cX7_addWord 54 = .ok (.iconst 0, 1) := by decide +kernel
theorem dX7_addWord_55 : decode cX7_addWord 55 = .ok (.invokevirtual 111, 3) := by decide +kernel
theorem dX7_addWord_58 : decode cX7_addWord 58 = .ok (.aload_n 0, 1) := by decide +kernel
theorem dX7_addWord_59 : decode cX7_addWord 59 = .ok (.getfield 10, 3) := by decide +kernel
theorem dX7_addWord_62 : decode cX7_addWord 62 = .ok (.dup, 1) := by decide +kernel
theorem dX7_addWord_63 : decode cX7_addWord 63 = .ok (.getfield 108, 3) := by decide +kernel
theorem dX7_addWord_66 : decode cX7_addWord 66 = .ok (.iconst 1, 1) := by decide +kernel
theorem dX7_addWord_67 : decode cX7_addWord 67 = .ok (.iadd, 1) := by decide +kernel
theorem dX7_addWord_68 : decode cX7_addWord 68 = .ok (.putfield 108, 3) := by decide +kernel
theorem dX7_addWord_71 : decode cX7_addWord 71 = .ok (.aload_n 0, 1) := by decide +kernel
theorem dX7_addWord_72 : decode cX7_addWord 72 = .ok (.getfield 10, 3) := by decide +kernel
theorem dX7_addWord_75 : decode cX7_addWord 75 = .ok (.getfield 108, 3) := by decide +kernel
theorem dX7_addWord_78 : decode cX7_addWord 78 = .ok (.iconst 1, 1) := by decide +kernel
theorem dX7_addWord_79 : decode cX7_addWord 79 = .ok (.isub, 1) := by decide +kernel
theorem dX7_addWord_80 : decode cX7_addWord 80 = .ok (.ireturn, 1) := by decide +kernel
theorem dX7_setWord_0 : decode cX7_setWord 0 = .ok (.iload_n 1, 1) := by decide +kernel
theorem dX7_setWord_1 : decode cX7_setWord 1 = .ok (.iconst 0, 1) := by decide +kernel
theorem dX7_setWord_2 : decode cX7_setWord 2 = .ok (.aload_n 0, 1) := by decide +kernel
theorem dX7_setWord_3 : decode cX7_setWord 3 = .ok (.getfield 10, 3) := by decide +kernel
theorem dX7_setWord_6 : decode cX7_setWord 6 = .ok (.getfield 108, 3) := by decide +kernel
theorem dX7_setWord_9 : decode cX7_setWord 9 = .ok (.iconst 1, 1) := by decide +kernel
theorem dX7_setWord_10 : decode cX7_setWord 10 = .ok (.isub, 1) := by decide +kernel
theorem dX7_setWord_11 : decode cX7_setWord 11 = .ok (.invokestatic 45, 3) := by decide +kernel
theorem dX7_setWord_14 : decode cX7_setWord 14 = .ok (.ifCond .ne 6, 3) := by decide +kernel
theorem dX7_setWord_17 : decode cX7_setWord 17 = .ok (.bipush (-2), 2) := by decide +kernel
theorem dX7_setWord_19 : decode cX7_setWord 19 = .ok (.ireturn, 1) := by decide +kernel
theorem dX7_setWord_20 : decode cX7_setWord 20 = .ok (.iload_n 2, 1) := by decide +kernel
theorem dX7_setWord_21 : decode cX7_setWord 21 = .ok (.iconst 1, 1) := by decide +kernel
theorem dX7_setWord_22 : decode cX7_setWord 22 = .ok (.bipush 12, 2) := by decide +kernel
theorem dX7_setWord_24 : decode cX7_setWord 24 = .ok (.invokestatic 45, 3) := by decide +kernel
theorem dX7_setWord_27 : decode cX7_setWord 27 = .ok (.ifCond .eq 12, 3) := by decide +kernel
theorem dX7_setWord_30 : decode cX7_setWord 30 = .ok (.iload_n 3, 1) := by decide +kernel
theorem dX7_setWord_31 : decode cX7_setWord 31 = .ok (.iconst 1, 1) := by decide +kernel
theorem dX7_setWord_32 : decode cX7_setWord 32 = .ok (.iconst 3, 1) := by decide +kernel
theorem dX7_setWord_33 : decode cX7_setWord 33 = .ok (.invokestatic 45, 3) := by decide +kernel
theorem dX7_setWord_36 : decode cX7_setWord 36 = .ok (.ifCond .ne 6, 3) := by decide +kernel
theorem dX7_setWord_39 : decode cX7_setWord 39 = .ok (.bipush (-3), 2) := by decide +kernel
theorem dX7_setWord_41 : decode cX7_setWord 41 = .ok (.ireturn, 1) := by decide +kernel
theorem dX7_setWord_42 : decode cX7_setWord 42 = .ok (.aload_n 0, 1) := by decide +kernel
theorem dX7_setWord_43 : decode cX7_setWord 43 = .ok (.invokevirtual 62, 3) := by decide +kernel
theorem dX7_setWord_46 : decode cX7_setWord 46 = .ok (.aload_n 0, 1) := by decide +kernel
theorem dX7_setWord_47 : decode cX7_setWord 47 = .ok (.getfield 10, 3) := by decide +kernel
theorem dX7_setWord_50 : decode cX7_setWord 50 = .ok (.iload_n 1, 1) := by decide +kernel
theorem dX7_setWord_51 : decode cX7_setWord 51 = .ok (.iconst 0, 1) := by decide +kernel
theorem dX7_setWord_52 : decode cX7_setWord 52 = .ok (.invokevirtual 115, 3) := by decide +kernel
theorem dX7_setWord_55 : decode cX7_setWord 55 = .ok (.istore 5, 2) := by decide +kernel
theorem dX7_setWord_57 : decode cX7_setWord 57 = .ok (.aload_n 0, 1) := by decide +kernel
theorem dX7_setWord_58 : decode cX7_setWord 58 = .ok (.getfield 10, 3) := by decide +kernel
theorem dX7_setWord_61 : decode cX7_setWord 61 = .ok (.iload_n 1, 1) := by decide +kernel
theorem dX7_setWord_62 : decode cX7_setWord 62 = .ok (.iload_n 2, 1) := by decide +kernel
theorem dX7_setWord_63 : decode cX7_setWord 63 = .ok (.iload_n 3, 1) := by decide +kernel
theorem dX7_setWord_64 : decode cX7_setWord 64 = .ok (.iload 4, 2) := by decide +kernel
theorem dX7_setWord_66 : decode cX7_setWord 66 = .ok (.ifCond .eq 7, 3) := by decide +kernel
theorem dX7_setWord_69 : decode cX7_setWord 69 = .ok (.iconst 1, 1) := by decide +kernel
theorem dX7_setWord_70 : decode cX7_setWord 70 = .ok (.goto 4, 3) := by decide +kernel
theorem dX7_setWord_73 : decode cX7_setWord 73 = .ok (.iconst 0, 1) := by decide +kernel
theorem dX7_setWord_74 : decode cX7_setWord 74 = .ok (.invokevirtual 111, 3) := by decide +kernel
theorem dX7_setWord_77 : decode cX7_setWord 77 = .ok (.iload 5, 2) := by decide +kernel
theorem dX7_setWord_79 : decode cX7_setWord 79 = .ok (.ireturn, 1) := by decide +kernel
theorem dX7_clearWords_0 : decode cX7_clearWords 0 = .ok (.aload_n 0, 1) := by decide +kernel
theorem dX7_clearWords_1 : decode cX7_clearWords 1 = .ok (.invokevirtual 62, 3) := by decide +kernel
theorem dX7_clearWords_4 : decode cX7_clearWords 4 = .ok (.aload_n 0, 1) := by decide +kernel
theorem dX7_clearWords_5 : decode cX7_clearWords 5 = .ok (.getfield 10, 3) := by decide +kernel
theorem dX7_clearWords_8 : decode cX7_clearWords 8 = .ok (.getfield 108, 3) := by decide +kernel
theorem dX7_clearWords_11 : decode cX7_clearWords 11 = .ok (.istore_n 1, 1) := by decide +kernel
theorem dX7_clearWords_12 : decode cX7_clearWords 12 = .ok (.aload_n 0, 1) := by decide +kernel
theorem dX7_clearWords_13 : decode cX7_clearWords 13 = .ok (.getfield 10, 3) := by decide +kernel
theorem dX7_clearWords_16 : decode cX7_clearWords 16 = .ok (.iconst 0, 1) := by decide +kernel
theorem dX7_clearWords_17 : decode cX7_clearWords 17 = .ok (.putfield 108, 3) := by decide +kernel
theorem dX7_clearWords_20 : decode cX7_clearWords 20 = .ok (.iload_n 1, 1) := by decide +kernel
theorem dX7_clearWords_21 : decode cX7_clearWords 21 = .ok (.ireturn, 1) := by decide +kernel
theorem dX7_setSizes_0 : decode cX7_setSizes 0 = .ok (.iload_n 1, 1) := by decide +kernel
theorem dX7_setSizes_1 : decode cX7_setSizes 1 = .ok (.iconst 0, 1) := by decide +kernel
theorem dX7_setSizes_2 : decode cX7_setSizes 2 = .ok (.iconst 4, 1) := by decide +kernel
theorem dX7_setSizes_3 : decode cX7_setSizes 3 = .ok (.invokestatic 45, 3) := by decide +kernel
theorem dX7_setSizes_6 : decode cX7_setSizes 6 = .ok (.ifCond .eq 34, 3) := by decide +kernel
theorem dX7_setSizes_9 : decode cX7_setSizes 9 = .ok (.iload_n 2, 1) := by decide +kernel
theorem dX7_setSizes_10 : decode cX7_setSizes 10 = .ok (.iconst 1, 1) := by decide +kernel
theorem dX7_setSizes_11 : decode cX7_setSizes 11 = .ok (.bipush 20, 2) := by decide +kernel
theorem dX7_setSizes_13 : decode cX7_setSizes 13 = .ok (.invokestatic 45, 3) := by decide +kernel
theorem dX7_setSizes_16 : decode cX7_setSizes 16 = .ok (.ifCond .eq 24, 3) := by decide +kernel
theorem dX7_setSizes_19 : decode cX7_setSizes 19 = .ok (.iload_n 3, 1) := by decide +kernel
theorem dX7_setSizes_20 : decode cX7_setSizes 20 = .ok (.iconst 1, 1) := by decide +kernel
theorem dX7_setSizes_21 : decode cX7_setSizes 21 = .ok (.bipush 20, 2) := by decide +kernel
theorem dX7_setSizes_23 : decode cX7_setSizes 23 = .ok (.invokestatic 45, 3) := by decide +kernel
theorem dX7_setSizes_26 : decode cX7_setSizes 26 = .ok (.ifCond .eq 14, 3) := by decide +kernel
theorem dX7_setSizes_29 : decode cX7_setSizes 29 = .ok (.iload 4, 2) := by decide +kernel
theorem dX7_setSizes_31 : decode cX7_setSizes 31 = .ok (.iconst 1, 1) := by decide +kernel
theorem dX7_setSizes_32 : decode cX7_setSizes 32 = .ok (.bipush 20, 2) := by decide +kernel
theorem dX7_setSizes_34 : decode cX7_setSizes 34 = .ok (.invokestatic 45, 3) := by decide +kernel
theorem dX7_setSizes_37 : decode cX7_setSizes 37 = .ok (.ifCond .ne 6, 3) := by decide +kernel
theorem dX7_setSizes_40 : decode cX7_setSizes 40 = .ok (.bipush (-3), 2) := by decide +kernel
theorem dX7_setSizes_42 : decode cX7_setSizes 42 = .ok (.ireturn, 1) := by decide +kernel
theorem dX7_setSizes_43 : decode cX7_setSizes 43 = .ok (.aload_n 0, 1) := by decide +kernel
theorem dX7_setSizes_44 : decode cX7_setSizes 44 = .ok (.invokevirtual 62, 3) := by decide +kernel
theorem dX7_setSizes_47 : decode cX7_setSizes 47 = .ok (.aload_n 0, 1) := by decide +kernel
theorem dX7_setSizes_48 : decode cX7_setSizes 48 = .ok (.getfield 10, 3) := by decide +kernel
theorem dX7_setSizes_51 : decode cX7_setSizes 51 = .ok (.getfield 118, 3) := by decide +kernel
theorem dX7_setSizes_54 : decode cX7_setSizes 54 = .ok (.iconst 0, 1) := by decide +kernel
theorem dX7_setSizes_55 : decode cX7_setSizes 55 = .ok (.iaload, 1) := by decide +kernel
theorem dX7_setSizes_56 : decode cX7_setSizes 56 = .ok (.istore 5, 2) := by decide +kernel
theorem dX7_setSizes_58 : decode cX7_setSizes 58 = .ok (.aload_n 0, 1) := by decide +kernel
theorem dX7_setSizes_59 : decode cX7_setSizes 59 = .ok (.getfield 10, 3) := by decide +kernel
theorem dX7_setSizes_62 : decode cX7_setSizes 62 = .ok (.getfield 118, 3) := by decide +kernel
theorem dX7_setSizes_65 : decode cX7_setSizes 65 = .ok (.iconst 0, 1) := by decide +kernel
theorem dX7_setSizes_66 : decode cX7_setSizes 66 = .ok (.iload_n 1, 1) := by decide +kernel
theorem dX7_setSizes_67 : decode cX7_setSizes 67 = .ok (.iastore, 1) := by decide +kernel
theorem dX7_setSizes_68 : decode cX7_setSizes 68 = .ok (.aload_n 0, 1) := by decide +kernel
theorem dX7_setSizes_69 : decode cX7_setSizes 69 = .ok (.getfield 10, 3) := by decide +kernel
theorem dX7_setSizes_72 : decode cX7_setSizes 72 = .ok (.getfield 118, 3) := by decide +kernel
theorem dX7_setSizes_75 : decode cX7_setSizes 75 = .ok (.iconst 1, 1) := by decide +kernel
theorem dX7_setSizes_76 : decode cX7_setSizes 76 = .ok (.iload_n 2, 1) := by decide +kernel
theorem dX7_setSizes_77 : decode cX7_setSizes 77 = .ok (.iastore, 1) := by decide +kernel
theorem dX7_setSizes_78 : decode cX7_setSizes 78 = .ok (.aload_n 0, 1) := by decide +kernel
theorem dX7_setSizes_79 : decode cX7_setSizes 79 = .ok (.getfield 10, 3) := by decide +kernel
theorem dX7_setSizes_82 : decode cX7_setSizes 82 = .ok (.getfield 118, 3) := by decide +kernel
theorem dX7_setSizes_85 : decode cX7_setSizes 85 = .ok (.iconst 2, 1) := by decide +kernel
theorem dX7_setSizes_86 : decode cX7_setSizes 86 = .ok (.iload_n 3, 1) := by decide +kernel
theorem dX7_setSizes_87 : decode cX7_setSizes 87 = .ok (.iastore, 1) := by decide +kernel
theorem dX7_setSizes_88 : decode cX7_setSizes 88 = .ok (.aload_n 0, 1) := by decide +kernel
theorem dX7_setSizes_89 : decode cX7_setSizes 89 = .ok (.getfield 10, 3) := by decide +kernel
theorem dX7_setSizes_92 : decode cX7_setSizes 92 = .ok (.getfield 118, 3) := by decide +kernel
theorem dX7_setSizes_95 : decode cX7_setSizes 95 = .ok (.iconst 3, 1) := by decide +kernel
theorem dX7_setSizes_96 : decode cX7_setSizes 96 = .ok (.iload 4, 2) := by decide +kernel
theorem dX7_setSizes_98 : decode cX7_setSizes 98 = .ok (.iastore, 1) := by decide +kernel
theorem dX7_setSizes_99 : decode cX7_setSizes 99 = .ok (.iload 5, 2) := by decide +kernel
theorem dX7_setSizes_101 : decode cX7_setSizes 101 = .ok (.ireturn, 1) := by decide +kernel
theorem dX7_setLines_0 : decode cX7_setLines 0 = .ok (.iload_n 1, 1) := by decide +kernel
theorem dX7_setLines_1 : decode cX7_setLines 1 = .ok (.iconst 0, 1) := by decide +kernel
theorem dX7_setLines_2 : decode cX7_setLines 2 = .ok (.bipush 35, 2) := by decide +kernel
theorem dX7_setLines_4 : decode cX7_setLines 4 = .ok (.invokestatic 45, 3) := by decide +kernel
theorem dX7_setLines_7 : decode cX7_setLines 7 = .ok (.ifCond .eq 32, 3) := by decide +kernel
theorem dX7_setLines_10 : decode cX7_setLines 10 = .ok (.iload_n 2, 1) := by decide +kernel
theorem dX7_setLines_11 : decode cX7_setLines 11 = .ok (.iconst 0, 1) := by decide +kernel
theorem dX7_setLines_12 : decode cX7_setLines 12 = .ok (.iconst 5, 1) := by decide +kernel
theorem dX7_setLines_13 : decode cX7_setLines 13 = .ok (.invokestatic 45, 3) := by decide +kernel
theorem dX7_setLines_16 : decode cX7_setLines 16 = .ok (.ifCond .eq 23, 3) := by decide +kernel
theorem dX7_setLines_19 : decode cX7_setLines 19 = .ok (.iload_n 3, 1) := by decide +kernel
theorem dX7_setLines_20 : decode cX7_setLines 20 = .ok (.iconst 0, 1) := by decide +kernel
theorem dX7_setLines_21 : decode cX7_setLines 21 = .ok (.iconst 2, 1) := by decide +kernel
theorem dX7_setLines_22 : decode cX7_setLines 22 = .ok (.invokestatic 45, 3) := by decide +kernel
theorem dX7_setLines_25 : decode cX7_setLines 25 = .ok (.ifCond .eq 14, 3) := by decide +kernel
theorem dX7_setLines_28 : decode cX7_setLines 28 = .ok (.iload 4, 2) := by decide +kernel
theorem dX7_setLines_30 : decode cX7_setLines 30 = .ok (.iconst 1, 1) := by decide +kernel
theorem dX7_setLines_31 : decode cX7_setLines 31 = .ok (.bipush 9, 2) := by decide +kernel
theorem dX7_setLines_33 : decode cX7_setLines 33 = .ok (.invokestatic 45, 3) := by decide +kernel
theorem dX7_setLines_36 : decode cX7_setLines 36 = .ok (.ifCond .ne 6, 3) := by decide +kernel
theorem dX7_setLines_39 : decode cX7_setLines 39 = .ok (.bipush (-3), 2) := by decide +kernel
theorem dX7_setLines_41 : decode cX7_setLines 41 = .ok (.ireturn, 1) := by decide +kernel
theorem dX7_setLines_42 : decode cX7_setLines 42 = .ok (.aload_n 0, 1) := by decide +kernel
theorem dX7_setLines_43 : decode cX7_setLines 43 = .ok (.invokevirtual 62, 3) := by decide +kernel
theorem dX7_setLines_46 : decode cX7_setLines 46 = .ok (.aload_n 0, 1) := by decide +kernel
theorem dX7_setLines_47 : decode cX7_setLines 47 = .ok (.getfield 10, 3) := by decide +kernel
theorem dX7_setLines_50 : decode cX7_setLines 50 = .ok (.getfield 118, 3) := by decide +kernel
theorem dX7_setLines_53 : decode cX7_setLines 53 = .ok (.iconst 4, 1) := by decide +kernel
theorem dX7_setLines_54 : decode cX7_setLines 54 = .ok (.iaload, 1) := by decide +kernel
theorem dX7_setLines_55 : decode cX7_setLines 55 = .ok (.istore 5, 2) := by decide +kernel
theorem dX7_setLines_57 : decode cX7_setLines 57 = .ok (.aload_n 0, 1) := by decide +kernel
theorem dX7_setLines_58 : decode cX7_setLines 58 = .ok (.getfield 10, 3) := by decide +kernel
theorem dX7_setLines_61 : decode cX7_setLines 61 = .ok (.getfield 118, 3) := by decide +kernel
theorem dX7_setLines_64 : decode cX7_setLines 64 = .ok (.iconst 4, 1) := by decide +kernel
theorem dX7_setLines_65 : decode cX7_setLines 65 = .ok (.iload_n 1, 1) := by decide +kernel
theorem dX7_setLines_66 : decode cX7_setLines 66 = .ok (.iastore, 1) := by decide +kernel
theorem dX7_setLines_67 : decode cX7_setLines 67 = .ok (.aload_n 0, 1) := by decide +kernel
theorem dX7_setLines_68 : decode cX7_setLines 68 = .ok (.getfield 10, 3) := by decide +kernel
theorem dX7_setLines_71 : decode cX7_setLines 71 = .ok (.getfield 118, 3) := by decide +kernel
theorem dX7_setLines_74 : decode cX7_setLines 74 = .ok (.iconst 5, 1) := by decide +kernel
theorem dX7_setLines_75 : decode cX7_setLines 75 = .ok (.iload_n 2, 1) := by decide +kernel
theorem dX7_setLines_76 : decode cX7_setLines 76 = .ok (.iastore, 1) := by decide +kernel
theorem dX7_setLines_77 : decode cX7_setLines 77 = .ok (.aload_n 0, 1) := by decide +kernel
theorem dX7_setLines_78 : decode cX7_setLines 78 = .ok (.getfield 10, 3) := by decide +kernel
theorem dX7_setLines_81 : decode cX7_setLines 81 = .ok (.getfield 118, 3) := by decide +kernel
theorem dX7_setLines_84 : decode cX7_setLines 84 = .ok (.bipush 6, 2) := by decide +kernel
theorem dX7_setLines_86 : decode cX7_setLines 86 = .ok (.iload_n 3, 1) := by decide +kernel
theorem dX7_setLines_87 : decode cX7_setLines 87 = .ok (.iastore, 1) := by decide +kernel
theorem dX7_setLines_88 : decode cX7_setLines 88 = .ok (.aload_n 0, 1) := by decide +kernel
theorem dX7_setLines_89 : decode cX7_setLines 89 = .ok (.getfield 10, 3) := by decide +kernel
theorem dX7_setLines_92 : decode cX7_setLines 92 = .ok (.getfield 118, 3) := by decide +kernel
theorem dX7_setLines_95 : decode cX7_setLines 95 = .ok (.bipush 7, 2) := by decide +kernel
theorem dX7_setLines_97 : decode cX7_setLines 97 = .ok (.iload 4, 2) := by decide +kernel
theorem dX7_setLines_99 : decode cX7_setLines 99 = .ok (.iastore, 1) := by decide +kernel
theorem dX7_setLines_100 : decode cX7_setLines 100 = .ok (.iload 5, 2) := by decide +kernel
theorem dX7_setLines_102 : decode cX7_setLines 102 = .ok (.ireturn, 1) := by decide +kernel
theorem dX7_count_0 : decode cX7_count 0 = .ok (.iload_n 1, 1) := by decide +kernel
theorem dX7_count_1 : decode cX7_count 1 = .ok (.iconst 2, 1) := by decide +kernel
theorem dX7_count_2 : decode cX7_count 2 = .ok (.bipush 9, 2) := by decide +kernel
theorem dX7_count_4 : decode cX7_count 4 = .ok (.invokestatic 45, 3) := by decide +kernel
theorem dX7_count_7 : decode cX7_count 7 = .ok (.ifCond .eq 15, 3) := by decide +kernel
theorem dX7_count_10 : decode cX7_count 10 = .ok (.aload_n 0, 1) := by decide +kernel
theorem dX7_count_11 : decode cX7_count 11 = .ok (.getfield 10, 3) := by decide +kernel
theorem dX7_count_14 : decode cX7_count 14 = .ok (.getfield 118, 3) := by decide +kernel
theorem dX7_count_17 : decode cX7_count 17 = .ok (.iload_n 1, 1) := by decide +kernel
theorem dX7_count_18 : decode cX7_count 18 = .ok (.iconst 2, 1) := by decide +kernel
theorem dX7_count_19 : decode cX7_count 19 = .ok (.isub, 1) := by decide +kernel
theorem dX7_count_20 : decode cX7_count 20 = .ok (.iaload, 1) := by decide +kernel
theorem dX7_count_21 : decode cX7_count 21 = .ok (.ireturn, 1) := by decide +kernel
theorem dX7_count_22 : decode cX7_count 22 = .ok (.iload_n 1, 1) := by decide +kernel
theorem dX7_count_23 : decode cX7_count 23 = .ok (.lookupswitch 87 #[(0, 41), (1, 52), (10, 60), (11, 71)], 41) := by decide +kernel
theorem dX7_count_64 : decode cX7_count 64 = .ok (.aload_n 0, 1) := by decide +kernel
theorem dX7_count_65 : decode cX7_count 65 = .ok (.getfield 10, 3) := by decide +kernel
theorem dX7_count_68 : decode cX7_count 68 = .ok (.getfield 53, 3) := by decide +kernel
theorem dX7_count_71 : decode cX7_count 71 = .ok (.getfield 57, 3) := by decide +kernel
theorem dX7_count_74 : decode cX7_count 74 = .ok (.ireturn, 1) := by decide +kernel
theorem dX7_count_75 : decode cX7_count 75 = .ok (.aload_n 0, 1) := by decide +kernel
theorem dX7_count_76 : decode cX7_count 76 = .ok (.getfield 10, 3) := by decide +kernel
theorem dX7_count_79 : decode cX7_count 79 = .ok (.getfield 108, 3) := by decide +kernel
theorem dX7_count_82 : decode cX7_count 82 = .ok (.ireturn, 1) := by decide +kernel
theorem dX7_count_83 : decode cX7_count 83 = .ok (.aload_n 0, 1) := by decide +kernel
theorem dX7_count_84 : decode cX7_count 84 = .ok (.getfield 10, 3) := by decide +kernel
theorem dX7_count_87 : decode cX7_count 87 = .ok (.getfield 53, 3) := by decide +kernel
theorem dX7_count_90 : decode cX7_count 90 = .ok (.invokevirtual 76, 3) := by decide +kernel
theorem dX7_count_93 : decode cX7_count 93 = .ok (.ireturn, 1) := by decide +kernel
theorem dX7_count_94 : decode cX7_count 94 = .ok (.aload_n 0, 1) := by decide +kernel
theorem dX7_count_95 : decode cX7_count 95 = .ok (.getfield 10, 3) := by decide +kernel
theorem dX7_count_98 : decode cX7_count 98 = .ok (.getfield 121, 3) := by decide +kernel
theorem dX7_count_101 : decode cX7_count 101 = .ok (.ifnull 7, 3) := by decide +kernel
theorem dX7_count_104 : decode cX7_count 104 = .ok (.iconst 1, 1) := by decide +kernel
theorem dX7_count_105 : decode cX7_count 105 = .ok (.goto 4, 3) := by decide +kernel
theorem dX7_count_108 : decode cX7_count 108 = .ok (.iconst 0, 1) := by decide +kernel
theorem dX7_count_109 : decode cX7_count 109 = .ok (.ireturn, 1) := by decide +kernel
theorem dX7_count_110 : decode cX7_count 110 = .ok (.bipush (-3), 2) := by decide +kernel
theorem dX7_count_112 : decode cX7_count 112 = .ok (.ireturn, 1) := by decide +kernel
theorem dX7_word_0 : decode cX7_word 0 = .ok (.iload_n 1, 1) := by decide +kernel
theorem dX7_word_1 : decode cX7_word 1 = .ok (.iconst 0, 1) := by decide +kernel
theorem dX7_word_2 : decode cX7_word 2 = .ok (.aload_n 0, 1) := by decide +kernel
theorem dX7_word_3 : decode cX7_word 3 = .ok (.getfield 10, 3) := by decide +kernel
theorem dX7_word_6 : decode cX7_word 6 = .ok (.getfield 108, 3) := by decide +kernel
theorem dX7_word_9 : decode cX7_word 9 = .ok (.iconst 1, 1) := by decide +kernel
theorem dX7_word_10 : decode cX7_word 10 = .ok (.isub, 1) := by decide +kernel
theorem dX7_word_11 : decode cX7_word 11 = .ok (.invokestatic 45, 3) := by decide +kernel
theorem dX7_word_14 : decode cX7_word 14 = .ok (.ifCond .ne 6, 3) := by decide +kernel
theorem dX7_word_17 : decode cX7_word 17 = .ok (.bipush (-2), 2) := by decide +kernel
theorem dX7_word_19 : decode cX7_word 19 = .ok (.ireturn, 1) := by decide +kernel
theorem dX7_word_20 : decode cX7_word 20 = .ok (.iload_n 2, 1) := by decide +kernel
theorem dX7_word_21 : decode cX7_word 21 = .ok (.iconst 0, 1) := by decide +kernel
theorem dX7_word_22 : decode cX7_word 22 = .ok (.iconst 2, 1) := by decide +kernel
theorem dX7_word_23 : decode cX7_word 23 = .ok (.invokestatic 45, 3) := by decide +kernel
theorem dX7_word_26 : decode cX7_word 26 = .ok (.ifCond .ne 6, 3) := by decide +kernel
theorem dX7_word_29 : decode cX7_word 29 = .ok (.bipush (-3), 2) := by decide +kernel
theorem dX7_word_31 : decode cX7_word 31 = .ok (.ireturn, 1) := by decide +kernel
theorem dX7_word_32 : decode cX7_word 32 = .ok (.aload_n 0, 1) := by decide +kernel
theorem dX7_word_33 : decode cX7_word 33 = .ok (.getfield 10, 3) := by decide +kernel
theorem dX7_word_36 : decode cX7_word 36 = .ok (.iload_n 1, 1) := by decide +kernel
theorem dX7_word_37 : decode cX7_word 37 = .ok (.iload_n 2, 1) := by decide +kernel
theorem dX7_word_38 : decode cX7_word 38 = .ok (.invokevirtual 115, 3) := by decide +kernel
theorem dX7_word_41 : decode cX7_word 41 = .ok (.ireturn, 1) := by decide +kernel
theorem dX7_cost_0 : decode cX7_cost 0 = .ok (.iload_n 1, 1) := by decide +kernel
theorem dX7_cost_1 : decode cX7_cost 1 = .ok (.iconst 1, 1) := by decide +kernel
theorem dX7_cost_2 : decode cX7_cost 2 = .ok (.bipush 12, 2) := by decide +kernel
theorem dX7_cost_4 : decode cX7_cost 4 = .ok (.invokestatic 45, 3) := by decide +kernel
theorem dX7_cost_7 : decode cX7_cost 7 = .ok (.ifCond .ne 6, 3) := by decide +kernel
theorem dX7_cost_10 : decode cX7_cost 10 = .ok (.bipush (-3), 2) := by decide +kernel
theorem dX7_cost_12 : decode cX7_cost 12 = .ok (.ireturn, 1) := by decide +kernel
theorem dX7_cost_13 : decode cX7_cost 13 = .ok (.aload_n 0, 1) := by decide +kernel
theorem dX7_cost_14 : decode cX7_cost 14 = .ok (.getfield 41, 3) := by decide +kernel
theorem dX7_cost_17 : decode cX7_cost 17 = .ok (.aload_n 0, 1) := by decide +kernel
theorem dX7_cost_18 : decode cX7_cost 18 = .ok (.getfield 10, 3) := by decide +kernel
theorem dX7_cost_21 : decode cX7_cost 21 = .ok (.iload_n 1, 1) := by decide +kernel
theorem dX7_cost_22 : decode cX7_cost 22 = .ok (.invokevirtual 125, 3) := by decide +kernel
theorem dX7_cost_25 : decode cX7_cost 25 = .ok (.ireturn, 1) := by decide +kernel
theorem dX7_fit_0 : decode cX7_fit 0 = .ok (.aload_n 0, 1) := by decide +kernel
theorem dX7_fit_1 : decode cX7_fit 1 = .ok (.aload_n 0, 1) := by decide +kernel
theorem dX7_fit_2 : decode cX7_fit 2 = .ok (.getfield 10, 3) := by decide +kernel
theorem dX7_fit_5 : decode cX7_fit 5 = .ok (.getfield 118, 3) := by decide +kernel
theorem dX7_fit_8 : decode cX7_fit 8 = .ok (.bipush 7, 2) := by decide +kernel
theorem dX7_fit_10 : decode cX7_fit 10 = .ok (.iaload, 1) := by decide +kernel
theorem dX7_fit_11 : decode cX7_fit 11 = .ok (.invokevirtual 129, 3) := by decide +kernel
theorem dX7_fit_14 : decode cX7_fit 14 = .ok (.ireturn, 1) := by decide +kernel
theorem dX7_allowed_0 : decode cX7_allowed 0 = .ok (.iload_n 1, 1) := by decide +kernel
theorem dX7_allowed_1 : decode cX7_allowed 1 = .ok (.iconst 1, 1) := by decide +kernel
theorem dX7_allowed_2 : decode cX7_allowed 2 = .ok (.bipush 12, 2) := by decide +kernel
theorem dX7_allowed_4 : decode cX7_allowed 4 = .ok (.invokestatic 45, 3) := by decide +kernel
theorem dX7_allowed_7 : decode cX7_allowed 7 = .ok (.ifCond .ne 6, 3) := by decide +kernel
theorem dX7_allowed_10 : decode cX7_allowed 10 = .ok (.bipush (-3), 2) := by decide +kernel
theorem dX7_allowed_12 : decode cX7_allowed 12 = .ok (.ireturn, 1) := by decide +kernel
theorem dX7_allowed_13 : decode cX7_allowed 13 = .ok (.aload_n 0, 1) := by decide +kernel
theorem dX7_allowed_14 : decode cX7_allowed 14 = .ok (.getfield 41, 3) := by decide +kernel
theorem dX7_allowed_17 : decode cX7_allowed 17 = .ok (.aload_n 0, 1) := by decide +kernel
theorem dX7_allowed_18 : decode cX7_allowed 18 = .ok (.getfield 10, 3) := by decide +kernel
theorem dX7_allowed_21 : decode cX7_allowed 21 = .ok (.iload_n 1, 1) := by decide +kernel
theorem dX7_allowed_22 : decode cX7_allowed 22 = .ok (.invokevirtual 133, 3) := by decide +kernel
theorem dX7_allowed_25 : decode cX7_allowed 25 = .ok (.ireturn, 1) := by decide +kernel
theorem dX7_take_0 : decode cX7_take 0 = .ok (.iload_n 1, 1) := by decide +kernel
theorem dX7_take_1 : decode cX7_take 1 = .ok (.iconst 0, 1) := by decide +kernel
theorem dX7_take_2 : decode cX7_take 2 = .ok (.bipush 12, 2) := by decide +kernel
theorem dX7_take_4 : decode cX7_take 4 = .ok (.invokestatic 45, 3) := by decide +kernel
theorem dX7_take_7 : decode cX7_take 7 = .ok (.ifCond .ne 6, 3) := by decide +kernel
theorem dX7_take_10 : decode cX7_take 10 = .ok (.bipush (-3), 2) := by decide +kernel
theorem dX7_take_12 : decode cX7_take 12 = .ok (.ireturn, 1) := by decide +kernel
theorem dX7_take_13 : decode cX7_take 13 = .ok (.aload_n 0, 1) := by decide +kernel
theorem dX7_take_14 : decode cX7_take 14 = .ok (.invokevirtual 62, 3) := by decide +kernel
theorem dX7_take_17 : decode cX7_take 17 = .ok (.iload_n 1, 1) := by decide +kernel
theorem dX7_take_18 : decode cX7_take 18 = .ok (.ifCond .ne 20, 3) := by decide +kernel
theorem dX7_take_21 : decode cX7_take 21 = .ok (.aload_n 0, 1) := by decide +kernel
theorem dX7_take_22 : decode cX7_take 22 = .ok (.aload_n 0, 1) := by decide +kernel
theorem dX7_take_23 : decode cX7_take 23 = .ok (.getfield 10, 3) := by decide +kernel
theorem dX7_take_26 : decode cX7_take 26 = .ok (.getfield 118, 3) := by decide +kernel
theorem dX7_take_29 : decode cX7_take 29 = .ok (.bipush 7, 2) := by decide +kernel
theorem dX7_take_31 : decode cX7_take 31 = .ok (.iaload, 1) := by decide +kernel
theorem dX7_take_32 : decode cX7_take 32 = .ok (.invokevirtual 129, 3) := by decide +kernel
theorem dX7_take_35 : decode cX7_take 35 = .ok (.goto 4, 3) := by decide +kernel
theorem dX7_take_38 : decode cX7_take 38 = .ok (.iload_n 1, 1) := by decide +kernel
theorem dX7_take_39 : decode cX7_take 39 = .ok (.istore_n 2, 1) := by decide +kernel
theorem dX7_take_40 : decode cX7_take 40 = .ok (.iload_n 2, 1) := by decide +kernel
theorem dX7_take_41 : decode cX7_take 41 = .ok (.iconst (-1), 1) := by decide +kernel
theorem dX7_take_42 : decode cX7_take 42 = .ok (.if_icmp .ne 7, 3) := by decide +kernel
theorem dX7_take_45 : decode cX7_take 45 = .ok (.iconst (-1), 1) := by decide +kernel
theorem dX7_take_46 : decode cX7_take 46 = .ok (.goto 15, 3) := by decide +kernel
theorem dX7_take_49 : decode cX7_take 49 = .ok (.aload_n 0, 1) := by decide +kernel
theorem dX7_take_50 : decode cX7_take 50 = .ok (.getfield 41, 3) := by decide +kernel
theorem dX7_take_53 : decode cX7_take 53 = .ok (.aload_n 0, 1) := by decide +kernel
theorem dX7_take_54 : decode cX7_take 54 = .ok (.getfield 10, 3) := by decide +kernel
theorem dX7_take_57 : decode cX7_take 57 = .ok (.iload_n 2, 1) := by decide +kernel
theorem dX7_take_58 : decode cX7_take 58 = .ok (.invokevirtual 125, 3) := by decide +kernel
theorem dX7_take_61 : decode cX7_take 61 = .ok (.istore_n 3, 1) := by decide +kernel
theorem dX7_take_62 : decode cX7_take 62 = .ok (.iload_n 3, 1) := by decide +kernel
theorem dX7_take_63 : decode cX7_take 63 = .ok (.iconst (-1), 1) := by decide +kernel
theorem dX7_take_64 : decode cX7_take 64 = .ok (.if_icmp .eq 18, 3) := by decide +kernel
theorem dX7_take_67 : decode cX7_take 67 = .ok (.aload_n 0, 1) := by decide +kernel
theorem dX7_take_68 : decode cX7_take 68 = .ok (.getfield 10, 3) := by decide +kernel
theorem dX7_take_71 : decode cX7_take 71 = .ok (.aload_n 0, 1) := by decide +kernel
theorem dX7_take_72 : decode cX7_take 72 = .ok (.getfield 41, 3) := by decide +kernel
theorem dX7_take_75 : decode cX7_take 75 = .ok (.iload_n 2, 1) := by decide +kernel
theorem dX7_take_76 : decode cX7_take 76 = .ok (.invokevirtual 136, 3) := by decide +kernel
theorem dX7_take_79 : decode cX7_take 79 = .ok (.putfield 121, 3) := by decide +kernel
theorem dX7_take_82 : decode cX7_take 82 = .ok (.iload_n 3, 1) := by decide +kernel
theorem dX7_take_83 : decode cX7_take 83 = .ok (.ireturn, 1) := by decide +kernel
theorem dX7_widestStep_0 : decode cX7_widestStep 0 = .ok (.iload_n 1, 1) := by decide +kernel
theorem dX7_widestStep_1 : decode cX7_widestStep 1 = .ok (.iconst 1, 1) := by decide +kernel
theorem dX7_widestStep_2 : decode cX7_widestStep 2 = .ok (.bipush 12, 2) := by decide +kernel
theorem dX7_widestStep_4 : decode cX7_widestStep 4 = .ok (.invokestatic 45, 3) := by decide +kernel
theorem dX7_widestStep_7 : decode cX7_widestStep 7 = .ok (.ifCond .ne 6, 3) := by decide +kernel
theorem dX7_widestStep_10 : decode cX7_widestStep 10 = .ok (.bipush (-3), 2) := by decide +kernel
theorem dX7_widestStep_12 : decode cX7_widestStep 12 = .ok (.ireturn, 1) := by decide +kernel
theorem dX7_widestStep_13 : decode cX7_widestStep 13 = .ok (.iconst 4, 1) := by decide +kernel
theorem dX7_widestStep_14 : decode cX7_widestStep 14 = .ok (.istore_n 2, 1) := by decide +kernel
theorem dX7_widestStep_15 : decode cX7_widestStep 15 = .ok (.iload_n 2, 1) := by decide +kernel
theorem dX7_widestStep_16 : decode cX7_widestStep 16 = .ok (.ifCond .lt 37, 3) := by decide +kernel
theorem dX7_widestStep_19 : decode cX7_widestStep 19 = .ok (.aload_n 0, 1) := by decide +kernel
theorem dX7_widestStep_20 : decode cX7_widestStep 20 = .ok (.getfield 41, 3) := by decide +kernel
theorem dX7_widestStep_23 : decode cX7_widestStep 23 = .ok (.aload_n 0, 1) := by decide +kernel
theorem dX7_widestStep_24 : decode cX7_widestStep 24 = .ok (.getfield 10, 3) := by decide +kernel
theorem dX7_widestStep_27 : decode cX7_widestStep 27 = .ok (.iload_n 1, 1) := by decide +kernel
theorem dX7_widestStep_28 : decode cX7_widestStep 28 = .ok (.iload_n 2, 1) := by decide +kernel
theorem dX7_widestStep_29 : decode cX7_widestStep 29 = .ok (.aload_n 0, 1) := by decide +kernel
theorem dX7_widestStep_30 : decode cX7_widestStep 30 = .ok (.getfield 10, 3) := by decide +kernel
theorem dX7_widestStep_33 : decode cX7_widestStep 33 = .ok (.getfield 118, 3) := by decide +kernel
theorem dX7_widestStep_36 : decode cX7_widestStep 36 = .ok (.bipush 7, 2) := by decide +kernel
theorem dX7_widestStep_38 : decode cX7_widestStep 38 = .ok (.iaload, 1) := by decide +kernel
theorem dX7_widestStep_39 : decode cX7_widestStep 39 = .ok (.invokevirtual 140, 3) := by decide +kernel
theorem dX7_widestStep_42 : decode cX7_widestStep 42 = .ok (.ifCond .eq 5, 3) := by decide +kernel
theorem dX7_widestStep_45 : decode cX7_widestStep 45 = .ok (.iload_n 2, 1) := by decide +kernel
theorem dX7_widestStep_46 : decode cX7_widestStep 46 = .ok (.ireturn, 1) := by decide +kernel
theorem dX7_widestStep_47 : decode cX7_widestStep 47 = .ok (.iinc 2 (-1), 3) := by decide +kernel
theorem dX7_widestStep_50 : decode cX7_widestStep 50 = .ok (.goto (-35), 3) := by decide +kernel
theorem dX7_widestStep_53 : decode cX7_widestStep 53 = .ok (.iconst (-1), 1) := by decide +kernel
theorem dX7_widestStep_54 : decode cX7_widestStep 54 = .ok (.ireturn, 1) := by decide +kernel
theorem dX7_tightestLimit_0 : decode cX7_tightestLimit 0 = .ok (.aload_n 0, 1) := by decide +kernel
theorem dX7_tightestLimit_1 : decode cX7_tightestLimit 1 = .ok (.bipush 9, 2) := by decide +kernel
theorem dX7_tightestLimit_3 : decode cX7_tightestLimit 3 = .ok (.invokevirtual 129, 3) := by decide +kernel
theorem dX7_tightestLimit_6 : decode cX7_tightestLimit 6 = .ok (.istore_n 1, 1) := by decide +kernel
theorem dX7_tightestLimit_7 : decode cX7_tightestLimit 7 = .ok (.iload_n 1, 1) := by decide +kernel
theorem dX7_tightestLimit_8 : decode cX7_tightestLimit 8 = .ok (.iconst (-1), 1) := by decide +kernel
theorem dX7_tightestLimit_9 : decode cX7_tightestLimit 9 = .ok (.if_icmp .ne 5, 3) := by decide +kernel
theorem dX7_tightestLimit_12 : decode cX7_tightestLimit 12 = .ok (.iconst (-1), 1) := by decide +kernel
theorem dX7_tightestLimit_13 : decode cX7_tightestLimit 13 = .ok (.ireturn, 1) := by decide +kernel
theorem dX7_tightestLimit_14 : decode cX7_tightestLimit 14 = .ok (.iconst 1, 1) := by decide +kernel
theorem dX7_tightestLimit_15 : decode cX7_tightestLimit 15 = .ok (.istore_n 2, 1) := by decide +kernel
theorem dX7_tightestLimit_16 : decode cX7_tightestLimit 16 = .ok (.iload_n 2, 1) := by decide +kernel
theorem dX7_tightestLimit_17 : decode cX7_tightestLimit 17 = .ok (.bipush 9, 2) := by decide +kernel
theorem dX7_tightestLimit_19 : decode cX7_tightestLimit 19 = .ok (.if_icmp .ge 36, 3) := by decide +kernel
theorem dX7_tightestLimit_22 : decode cX7_tightestLimit 22 = .ok (.aload_n 0, 1) := by decide +kernel
theorem dX7_tightestLimit_23 : decode cX7_tightestLimit 23 = .ok (.getfield 41, 3) := by decide +kernel
theorem dX7_tightestLimit_26 : decode cX7_tightestLimit 26 = .ok (.aload_n 0, 1) := by decide +kernel
theorem dX7_tightestLimit_27 : decode cX7_tightestLimit 27 = .ok (.getfield 10, 3) := by decide +kernel
theorem dX7_tightestLimit_30 : decode cX7_tightestLimit 30 = .ok (.iload_n 1, 1) := by decide +kernel
theorem dX7_tightestLimit_31 : decode cX7_tightestLimit 31 = .ok (.aload_n 0, 1) := by decide +kernel
theorem dX7_tightestLimit_32 : decode cX7_tightestLimit 32 = .ok (.getfield 10, 3) := by decide +kernel
theorem dX7_tightestLimit_35 : decode cX7_tightestLimit 35 = .ok (.getfield 118, 3) := by decide +kernel
theorem dX7_tightestLimit_38 : decode cX7_tightestLimit 38 = .ok (.iconst 0, 1) := by decide +kernel
theorem dX7_tightestLimit_39 : decode cX7_tightestLimit 39 = .ok (.iaload, 1) := by decide +kernel
theorem dX7_tightestLimit_40 : decode cX7_tightestLimit 40 = .ok (.iload_n 2, 1) := by decide +kernel
theorem dX7_tightestLimit_41 : decode cX7_tightestLimit 41 = .ok (.invokevirtual 140, 3) := by decide +kernel
theorem dX7_tightestLimit_44 : decode cX7_tightestLimit 44 = .ok (.ifCond .eq 5, 3) := by decide +kernel
theorem dX7_tightestLimit_47 : decode cX7_tightestLimit 47 = .ok (.iload_n 2, 1) := by decide +kernel
theorem dX7_tightestLimit_48 : decode cX7_tightestLimit 48 = .ok (.ireturn, 1) := by decide +kernel
theorem dX7_tightestLimit_49 : decode cX7_tightestLimit 49 = .ok (.iinc 2 1, 3) := by decide +kernel
theorem dX7_tightestLimit_52 : decode cX7_tightestLimit 52 = .ok (.goto (-36), 3) := by decide +kernel
theorem dX7_tightestLimit_55 : decode cX7_tightestLimit 55 = .ok (.bipush 9, 2) := by decide +kernel
theorem dX7_tightestLimit_57 : decode cX7_tightestLimit 57 = .ok (.ireturn, 1) := by decide +kernel
theorem dX7_layout_0 : decode cX7_layout 0 = .ok (.iload_n 1, 1) := by decide +kernel
theorem dX7_layout_1 : decode cX7_layout 1 = .ok (.iconst 0, 1) := by decide +kernel
theorem dX7_layout_2 : decode cX7_layout 2 = .ok (.iconst 4, 1) := by decide +kernel
theorem dX7_layout_3 : decode cX7_layout 3 = .ok (.invokestatic 45, 3) := by decide +kernel
theorem dX7_layout_6 : decode cX7_layout 6 = .ok (.ifCond .ne 6, 3) := by decide +kernel
theorem dX7_layout_9 : decode cX7_layout 9 = .ok (.bipush (-3), 2) := by decide +kernel
theorem dX7_layout_11 : decode cX7_layout 11 = .ok (.ireturn, 1) := by decide +kernel
theorem dX7_layout_12 : decode cX7_layout 12 = .ok (.aload_n 0, 1) := by decide +kernel
theorem dX7_layout_13 : decode cX7_layout 13 = .ok (.getfield 10, 3) := by decide +kernel
theorem dX7_layout_16 : decode cX7_layout 16 = .ok (.getfield 121, 3) := by decide +kernel
theorem dX7_layout_19 : decode cX7_layout 19 = .ok (.ifnonnull 6, 3) := by decide +kernel
theorem dX7_layout_22 : decode cX7_layout 22 = .ok (.bipush (-4), 2) := by decide +kernel
theorem dX7_layout_24 : decode cX7_layout 24 = .ok (.ireturn, 1) := by decide +kernel
theorem dX7_layout_25 : decode cX7_layout 25 = .ok (.aload_n 0, 1) := by decide +kernel
theorem dX7_layout_26 : decode cX7_layout 26 = .ok (.getfield 10, 3) := by decide +kernel
theorem dX7_layout_29 : decode cX7_layout 29 = .ok (.getfield 121, 3) := by decide +kernel
theorem dX7_layout_32 : decode cX7_layout 32 = .ok (.getfield 144, 3) := by decide +kernel
theorem dX7_layout_35 : decode cX7_layout 35 = .ok (.iload_n 1, 1) := by decide +kernel
theorem dX7_layout_36 : decode cX7_layout 36 = .ok (.iaload, 1) := by decide +kernel
theorem dX7_layout_37 : decode cX7_layout 37 = .ok (.ireturn, 1) := by decide +kernel
theorem dX7_line_0 : decode cX7_line 0 = .ok (.aload_n 0, 1) := by decide +kernel
theorem dX7_line_1 : decode cX7_line 1 = .ok (.getfield 10, 3) := by decide +kernel
theorem dX7_line_4 : decode cX7_line 4 = .ok (.getfield 121, 3) := by decide +kernel
theorem dX7_line_7 : decode cX7_line 7 = .ok (.ifnonnull 6, 3) := by decide +kernel
theorem dX7_line_10 : decode cX7_line 10 = .ok (.bipush (-4), 2) := by decide +kernel
theorem dX7_line_12 : decode cX7_line 12 = .ok (.ireturn, 1) := by decide +kernel
theorem dX7_line_13 : decode cX7_line 13 = .ok (.iload_n 1, 1) := by decide +kernel
theorem dX7_line_14 : decode cX7_line 14 = .ok (.iconst 0, 1) := by decide +kernel
theorem dX7_line_15 : decode cX7_line 15 = .ok (.aload_n 0, 1) := by decide +kernel
theorem dX7_line_16 : decode cX7_line 16 = .ok (.getfield 10, 3) := by decide +kernel
theorem dX7_line_19 : decode cX7_line 19 = .ok (.getfield 121, 3) := by decide +kernel
theorem dX7_line_22 : decode cX7_line 22 = .ok (.getfield 149, 3) := by decide +kernel
theorem dX7_line_25 : decode cX7_line 25 = .ok (.iconst 1, 1) := by decide +kernel
theorem dX7_line_26 : decode cX7_line 26 = .ok (.isub, 1) := by decide +kernel
theorem dX7_line_27 : decode cX7_line 27 = .ok (.invokestatic 45, 3) := by decide +kernel
theorem dX7_line_30 : decode cX7_line 30 = .ok (.ifCond .ne 6, 3) := by decide +kernel
theorem dX7_line_33 : decode cX7_line 33 = .ok (.bipush (-2), 2) := by decide +kernel
theorem dX7_line_35 : decode cX7_line 35 = .ok (.ireturn, 1) := by decide +kernel
theorem dX7_line_36 : decode cX7_line 36 = .ok (.iload_n 2, 1) := by decide +kernel
theorem dX7_line_37 : decode cX7_line 37 = .ok (.iconst 0, 1) := by decide +kernel
theorem dX7_line_38 : decode cX7_line 38 = .ok (.bipush 6, 2) := by decide +kernel
theorem dX7_line_40 : decode cX7_line 40 = .ok (.invokestatic 45, 3) := by decide +kernel
theorem dX7_line_43 : decode cX7_line 43 = .ok (.ifCond .ne 6, 3) := by decide +kernel
theorem dX7_line_46 : decode cX7_line 46 = .ok (.bipush (-3), 2) := by decide +kernel
theorem dX7_line_48 : decode cX7_line 48 = .ok (.ireturn, 1) := by decide +kernel
theorem dX7_line_49 : decode cX7_line 49 = .ok (.aload_n 0, 1) := by decide +kernel
theorem dX7_line_50 : decode cX7_line 50 = .ok (.getfield 10, 3) := by decide +kernel
theorem dX7_line_53 : decode cX7_line 53 = .ok (.getfield 121, 3) := by decide +kernel
theorem dX7_line_56 : decode cX7_line 56 = .ok (.getfield 152, 3) := by decide +kernel
theorem dX7_line_59 : decode cX7_line 59 = .ok (.iload_n 1, 1) := by decide +kernel
theorem dX7_line_60 : decode cX7_line 60 = .ok (.bipush 7, 2) := by decide +kernel
theorem dX7_line_62 : decode cX7_line 62 = .ok (.imul, 1) := by decide +kernel
theorem dX7_line_63 : decode cX7_line 63 = .ok (.iload_n 2, 1) := by decide +kernel
theorem dX7_line_64 : decode cX7_line 64 = .ok (.iadd, 1) := by decide +kernel
theorem dX7_line_65 : decode cX7_line 65 = .ok (.iaload, 1) := by decide +kernel
theorem dX7_line_66 : decode cX7_line 66 = .ok (.ireturn, 1) := by decide +kernel
theorem dX7_placed_0 : decode cX7_placed 0 = .ok (.aload_n 0, 1) := by decide +kernel
theorem dX7_placed_1 : decode cX7_placed 1 = .ok (.getfield 10, 3) := by decide +kernel
theorem dX7_placed_4 : decode cX7_placed 4 = .ok (.getfield 121, 3) := by decide +kernel
theorem dX7_placed_7 : decode cX7_placed 7 = .ok (.ifnonnull 6, 3) := by decide +kernel
theorem dX7_placed_10 : decode cX7_placed 10 = .ok (.bipush (-4), 2) := by decide +kernel
theorem dX7_placed_12 : decode cX7_placed 12 = .ok (.ireturn, 1) := by decide +kernel
theorem dX7_placed_13 : decode cX7_placed 13 = .ok (.iload_n 1, 1) := by decide +kernel
theorem dX7_placed_14 : decode cX7_placed 14 = .ok (.iconst 0, 1) := by decide +kernel
theorem dX7_placed_15 : decode cX7_placed 15 = .ok (.aload_n 0, 1) := by decide +kernel
theorem dX7_placed_16 : decode cX7_placed 16 = .ok (.getfield 10, 3) := by decide +kernel
theorem dX7_placed_19 : decode cX7_placed 19 = .ok (.getfield 121, 3) := by decide +kernel
theorem dX7_placed_22 : decode cX7_placed 22 = .ok (.getfield 155, 3) := by decide +kernel
theorem dX7_placed_25 : decode cX7_placed 25 = .ok (.iconst 1, 1) := by decide +kernel
theorem dX7_placed_26 : decode cX7_placed 26 = .ok (.isub, 1) := by decide +kernel
theorem dX7_placed_27 : decode cX7_placed 27 = .ok (.invokestatic 45, 3) := by decide +kernel
theorem dX7_placed_30 : decode cX7_placed 30 = .ok (.ifCond .ne 6, 3) := by decide +kernel
theorem dX7_placed_33 : decode cX7_placed 33 = .ok (.bipush (-2), 2) := by decide +kernel
theorem dX7_placed_35 : decode cX7_placed 35 = .ok (.ireturn, 1) := by decide +kernel
theorem dX7_placed_36 : decode cX7_placed 36 = .ok (.iload_n 2, 1) := by decide +kernel
theorem dX7_placed_37 : decode cX7_placed 37 = .ok (.iconst 0, 1) := by decide +kernel
theorem dX7_placed_38 : decode cX7_placed 38 = .ok (.iconst 4, 1) := by decide +kernel
theorem dX7_placed_39 : decode cX7_placed 39 = .ok (.invokestatic 45, 3) := by decide +kernel
theorem dX7_placed_42 : decode cX7_placed 42 = .ok (.ifCond .ne 6, 3) := by decide +kernel
theorem dX7_placed_45 : decode cX7_placed 45 = .ok (.bipush (-3), 2) := by decide +kernel
theorem dX7_placed_47 : decode cX7_placed 47 = .ok (.ireturn, 1) := by decide +kernel
theorem dX7_placed_48 : decode cX7_placed 48 = .ok (.aload_n 0, 1) := by decide +kernel
theorem dX7_placed_49 : decode cX7_placed 49 = .ok (.getfield 10, 3) := by decide +kernel
theorem dX7_placed_52 : decode cX7_placed 52 = .ok (.getfield 121, 3) := by decide +kernel
theorem dX7_placed_55 : decode cX7_placed 55 = .ok (.getfield 156, 3) := by decide +kernel
theorem dX7_placed_58 : decode cX7_placed 58 = .ok (.iload_n 1, 1) := by decide +kernel
theorem dX7_placed_59 : decode cX7_placed 59 = .ok (.iconst 5, 1) := by decide +kernel
theorem dX7_placed_60 : decode cX7_placed 60 = .ok (.imul, 1) := by decide +kernel
theorem dX7_placed_61 : decode cX7_placed 61 = .ok (.iload_n 2, 1) := by decide +kernel
theorem dX7_placed_62 : decode cX7_placed 62 = .ok (.iadd, 1) := by decide +kernel
theorem dX7_placed_63 : decode cX7_placed 63 = .ok (.iaload, 1) := by decide +kernel
theorem dX7_placed_64 : decode cX7_placed 64 = .ok (.ireturn, 1) := by decide +kernel
theorem dX7_type_0 : decode cX7_type 0 = .ok (.iload_n 1, 1) := by decide +kernel
theorem dX7_type_1 : decode cX7_type 1 = .ok (.iconst 0, 1) := by decide +kernel
theorem dX7_type_2 : decode cX7_type 2 = .ok (.sipush 255, 3) := by decide +kernel
theorem dX7_type_5 : decode cX7_type 5 = .ok (.invokestatic 45, 3) := by decide +kernel
theorem dX7_type_8 : decode cX7_type 8 = .ok (.ifCond .ne 6, 3) := by decide +kernel
theorem dX7_type_11 : decode cX7_type 11 = .ok (.bipush (-3), 2) := by decide +kernel
theorem dX7_type_13 : decode cX7_type 13 = .ok (.ireturn, 1) := by decide +kernel
theorem dX7_type_14 : decode cX7_type 14 = .ok (.aload_n 0, 1) := by decide +kernel
theorem dX7_type_15 : decode cX7_type 15 = .ok (.getfield 28, 3) := by decide +kernel
theorem dX7_type_18 : decode cX7_type 18 = .ok (.bipush 80, 2) := by decide +kernel
theorem dX7_type_20 : decode cX7_type 20 = .ok (.if_icmp .lt 6, 3) := by decide +kernel
theorem dX7_type_23 : decode cX7_type 23 = .ok (.bipush (-5), 2) := by decide +kernel
theorem dX7_type_25 : decode cX7_type 25 = .ok (.ireturn, 1) := by decide +kernel
theorem dX7_type_26 : decode cX7_type 26 = .ok (.aload_n 0, 1) := by decide +kernel
theorem dX7_type_27 : decode cX7_type 27 = .ok (.getfield 24, 3) := by decide +kernel
theorem dX7_type_30 : decode cX7_type 30 = .ok (.aload_n 0, 1) := by decide +kernel
theorem dX7_type_31 : decode cX7_type 31 = .ok (.getfield 28, 3) := by decide +kernel
theorem dX7_type_34 : decode cX7_type 34 = .ok (.iload_n 1, 1) := by decide +kernel
theorem dX7_type_35 : decode cX7_type 35 = .ok (.iastore, 1) := by decide +kernel
theorem dX7_type_36 : decode cX7_type 36 = .ok (.aload_n 0, 1) := by decide +kernel
theorem dX7_type_37 : decode cX7_type 37 = .ok (.dup, 1) := by decide +kernel
theorem dX7_type_38 : decode cX7_type 38 = .ok (.getfield 28, 3) := by decide +kernel
theorem dX7_type_41 : decode cX7_type 41 = .ok (.iconst 1, 1) := by decide +kernel
theorem dX7_type_42 : decode cX7_type 42 = .ok (.iadd, 1) := by decide +kernel
theorem dX7_type_43 : decode cX7_type 43 = .ok (.putfield 28, 3) := by decide +kernel
theorem dX7_type_46 : decode cX7_type 46 = .ok (.aload_n 0, 1) := by decide +kernel
theorem dX7_type_47 : decode cX7_type 47 = .ok (.getfield 28, 3) := by decide +kernel
theorem dX7_type_50 : decode cX7_type 50 = .ok (.ireturn, 1) := by decide +kernel
theorem dX7_clearText_0 : decode cX7_clearText 0 = .ok (.aload_n 0, 1) := by decide +kernel
theorem dX7_clearText_1 : decode cX7_clearText 1 = .ok (.getfield 28, 3) := by decide +kernel
theorem dX7_clearText_4 : decode cX7_clearText 4 = .ok (.istore_n 1, 1) := by decide +kernel
theorem dX7_clearText_5 : decode cX7_clearText 5 = .ok (.aload_n 0, 1) := by decide +kernel
theorem dX7_clearText_6 : decode cX7_clearText 6 = .ok (.iconst 0, 1) := by decide +kernel
theorem dX7_clearText_7 : decode cX7_clearText 7 = .ok (.putfield 28, 3) := by decide +kernel
theorem dX7_clearText_10 : decode cX7_clearText 10 = .ok (.iload_n 1, 1) := by decide +kernel
theorem dX7_clearText_11 : decode cX7_clearText 11 = .ok (.ireturn, 1) := by decide +kernel
theorem dX7_textFault_0 : decode cX7_textFault 0 = .ok (.aload_n 0, 1) := by decide +kernel
theorem dX7_textFault_1 : decode cX7_textFault 1 = .ok (.getfield 34, 3) := by decide +kernel
theorem dX7_textFault_4 : decode cX7_textFault 4 = .ok (.aload_n 0, 1) := by decide +kernel
theorem dX7_textFault_5 : decode cX7_textFault 5 = .ok (.getfield 24, 3) := by decide +kernel
theorem dX7_textFault_8 : decode cX7_textFault 8 = .ok (.aload_n 0, 1) := by decide +kernel
theorem dX7_textFault_9 : decode cX7_textFault 9 = .ok (.getfield 28, 3) := by decide +kernel
theorem dX7_textFault_12 : decode cX7_textFault 12 = .ok (.invokevirtual 159, 3) := by decide +kernel
theorem dX7_textFault_15 : decode cX7_textFault 15 = .ok (.ireturn, 1) := by decide +kernel
theorem dX7_load_0 : decode cX7_load 0 = .ok (.aload_n 0, 1) := by decide +kernel
theorem dX7_load_1 : decode cX7_load 1 = .ok (.getfield 34, 3) := by decide +kernel
theorem dX7_load_4 : decode cX7_load 4 = .ok (.aload_n 0, 1) := by decide +kernel
theorem dX7_load_5 : decode cX7_load 5 = .ok (.getfield 24, 3) := by decide +kernel
theorem dX7_load_8 : decode cX7_load 8 = .ok (.aload_n 0, 1) := by decide +kernel
theorem dX7_load_9 : decode cX7_load 9 = .ok (.getfield 28, 3) := by decide +kernel
theorem dX7_load_12 : decode cX7_load 12 = .ok (.invokevirtual 159, 3) := by decide +kernel
theorem dX7_load_15 : decode cX7_load 15 = .ok (.iconst (-1), 1) := by decide +kernel
theorem dX7_load_16 : decode cX7_load 16 = .ok (.if_icmp .eq 6, 3) := by decide +kernel
theorem dX7_load_19 : decode cX7_load 19 = .ok (.bipush (-4), 2) := by decide +kernel
theorem dX7_load_21 : decode cX7_load 21 = .ok (.ireturn, 1) := by decide +kernel
theorem dX7_load_22 : decode cX7_load 22 = .ok (.aload_n 0, 1) := by decide +kernel
theorem dX7_load_23 : decode cX7_load 23 = .ok (.invokevirtual 62, 3) := by decide +kernel
theorem dX7_load_26 : decode cX7_load 26 = .ok (.aload_n 0, 1) := by decide +kernel
theorem dX7_load_27 : decode cX7_load 27 = .ok (.getfield 10, 3) := by decide +kernel
theorem dX7_load_30 : decode cX7_load 30 = .ok (.aload_n 0, 1) := by decide +kernel
theorem dX7_load_31 : decode cX7_load 31 = .ok (.getfield 34, 3) := by decide +kernel
theorem dX7_load_34 : decode cX7_load 34 = .ok (.getfield 163, 3) := by decide +kernel
theorem dX7_load_37 : decode cX7_load 37 = .ok (.putfield 108, 3) := by decide +kernel
theorem dX7_load_40 : decode cX7_load 40 = .ok (.aload_n 0, 1) := by decide +kernel
theorem dX7_load_41 : decode cX7_load 41 = .ok (.getfield 34, 3) := by decide +kernel
theorem dX7_load_44 : decode cX7_load 44 = .ok (.getfield 164, 3) := by decide +kernel
theorem dX7_load_47 : decode cX7_load 47 = .ok (.iconst 0, 1) := by decide +kernel
theorem dX7_load_48 : decode cX7_load 48 = .ok (.aload_n 0, 1) := by decide +kernel
theorem dX7_load_49 : decode cX7_load 49 = .ok (.getfield 10, 3) := by decide +kernel
theorem dX7_load_52 : decode cX7_load 52 = .ok (.getfield 165, 3) := by decide +kernel
theorem dX7_load_55 : decode cX7_load 55 = .ok (.iconst 0, 1) := by decide +kernel
theorem dX7_load_56 : decode cX7_load 56 = .ok (.aload_n 0, 1) := by decide +kernel
theorem dX7_load_57 : decode cX7_load 57 = .ok (.getfield 10, 3) := by decide +kernel
theorem dX7_load_60 : decode cX7_load 60 = .ok (.getfield 165, 3) := by decide +kernel
theorem dX7_load_63 : decode cX7_load 63 = .ok (.arraylength, 1) := by decide +kernel
theorem dX7_load_64 : decode cX7_load 64 = .ok (.invokestatic 166, 3) := by decide +kernel
theorem dX7_load_67 : decode cX7_load 67 = .ok (.aload_n 0, 1) := by decide +kernel
theorem dX7_load_68 : decode cX7_load 68 = .ok (.getfield 10, 3) := by decide +kernel
theorem dX7_load_71 : decode cX7_load 71 = .ok (.getfield 108, 3) := by decide +kernel
theorem dX7_load_74 : decode cX7_load 74 = .ok (.ireturn, 1) := by decide +kernel
theorem dX7_undo_0 : decode cX7_undo 0 = .ok (.aload_n 0, 1) := by decide +kernel
theorem dX7_undo_1 : decode cX7_undo 1 = .ok (.getfield 20, 3) := by decide +kernel
theorem dX7_undo_4 : decode cX7_undo 4 = .ok (.ifCond .gt 6, 3) := by decide +kernel
theorem dX7_undo_7 : decode cX7_undo 7 = .ok (.bipush (-4), 2) := by decide +kernel
theorem dX7_undo_9 : decode cX7_undo 9 = .ok (.ireturn, 1) := by decide +kernel
theorem dX7_undo_10 : decode cX7_undo 10 = .ok (.aload_n 0, 1) := by decide +kernel
theorem dX7_undo_11 : decode cX7_undo 11 = .ok (.dup, 1) := by decide +kernel
theorem dX7_undo_12 : decode cX7_undo 12 = .ok (.getfield 20, 3) := by decide +kernel
theorem dX7_undo_15 : decode cX7_undo 15 = .ok (.iconst 1, 1) := by decide +kernel
theorem dX7_undo_16 : decode cX7_undo 16 = .ok (.isub, 1) := by decide +kernel
theorem dX7_undo_17 : decode cX7_undo 17 = .ok (.putfield 20, 3) := by decide +kernel
theorem dX7_undo_20 : decode cX7_undo 20 = .ok (.aload_n 0, 1) := by decide +kernel
theorem dX7_undo_21 : decode cX7_undo 21 = .ok (.getfield 10, 3) := by decide +kernel
theorem dX7_undo_24 : decode cX7_undo 24 = .ok (.aload_n 0, 1) := by decide +kernel
theorem dX7_undo_25 : decode cX7_undo 25 = .ok (.getfield 16, 3) := by decide +kernel
theorem dX7_undo_28 : decode cX7_undo 28 = .ok (.aload_n 0, 1) := by decide +kernel
theorem dX7_undo_29 : decode cX7_undo 29 = .ok (.getfield 20, 3) := by decide +kernel
theorem dX7_undo_32 : decode cX7_undo 32 = .ok (.aaload, 1) := by decide +kernel
theorem dX7_undo_33 : decode cX7_undo 33 = .ok (.invokevirtual 172, 3) := by decide +kernel
theorem dX7_undo_36 : decode cX7_undo 36 = .ok (.aload_n 0, 1) := by decide +kernel
theorem dX7_undo_37 : decode cX7_undo 37 = .ok (.getfield 20, 3) := by decide +kernel
theorem dX7_undo_40 : decode cX7_undo 40 = .ok (.ireturn, 1) := by decide +kernel
theorem dX7_digest_0 : decode cX7_digest 0 = .ok (.ldc2_w 176, 3) := by decide +kernel
theorem dX7_digest_3 : decode cX7_digest 3 = .ok (.lstore_n 1, 1) := by decide +kernel
theorem dX7_digest_4 : decode cX7_digest 4 = .ok (.iconst 0, 1) := by decide +kernel
theorem dX7_digest_5 : decode cX7_digest 5 = .ok (.istore_n 3, 1) := by decide +kernel
theorem dX7_digest_6 : decode cX7_digest 6 = .ok (.iload_n 3, 1) := by decide +kernel
theorem dX7_digest_7 : decode cX7_digest 7 = .ok (.bipush 11, 2) := by decide +kernel
theorem dX7_digest_9 : decode cX7_digest 9 = .ok (.if_icmp .gt 22, 3) := by decide +kernel
theorem dX7_digest_12 : decode cX7_digest 12 = .ok (.ldc2_w 178, 3) := by decide +kernel
theorem dX7_digest_15 : decode cX7_digest 15 = .ok (.lload_n 1, 1) := by decide +kernel
theorem dX7_digest_16 : decode cX7_digest 16 = .ok (.lmul, 1) := by decide +kernel
theorem dX7_digest_17 : decode cX7_digest 17 = .ok (.aload_n 0, 1) := by decide +kernel
theorem dX7_digest_18 : decode cX7_digest 18 = .ok (.iload_n 3, 1) := by decide +kernel
theorem dX7_digest_19 : decode cX7_digest 19 = .ok (.invokevirtual 180, 3) := by decide +kernel
theorem dX7_digest_22 : decode cX7_digest 22 = .ok (.i2l, 1) := by decide +kernel
theorem dX7_digest_23 : decode cX7_digest 23 = .ok (.ladd, 1) := by decide +kernel
theorem dX7_digest_24 : decode cX7_digest 24 = .ok (.lstore_n 1, 1) := by decide +kernel
theorem dX7_digest_25 : decode cX7_digest 25 = .ok (.iinc 3 1, 3) := by decide +kernel
theorem dX7_digest_28 : decode cX7_digest 28 = .ok (.goto (-22), 3) := by decide +kernel
theorem dX7_digest_31 : decode cX7_digest 31 = .ok (.iconst 0, 1) := by decide +kernel
theorem dX7_digest_32 : decode cX7_digest 32 = .ok (.istore_n 3, 1) := by decide +kernel
theorem dX7_digest_33 : decode cX7_digest 33 = .ok (.iload_n 3, 1) := by decide +kernel
theorem dX7_digest_34 : decode cX7_digest 34 = .ok (.bipush 36, 2) := by decide +kernel
theorem dX7_digest_36 : decode cX7_digest 36 = .ok (.if_icmp .ge 39, 3) := by decide +kernel
theorem dX7_digest_39 : decode cX7_digest 39 = .ok (.ldc2_w 178, 3) := by decide +kernel
theorem dX7_digest_42 : decode cX7_digest 42 = .ok (.lload_n 1, 1) := by decide +kernel
theorem dX7_digest_43 : decode cX7_digest 43 = .ok (.lmul, 1) := by decide +kernel
theorem dX7_digest_44 : decode cX7_digest 44 = .ok (.aload_n 0, 1) := by decide +kernel
theorem dX7_digest_45 : decode cX7_digest 45 = .ok (.iload_n 3, 1) := by decide +kernel
theorem dX7_digest_46 : decode cX7_digest 46 = .ok (.iconst 1, 1) := by decide +kernel
theorem dX7_digest_47 : decode cX7_digest 47 = .ok (.iconst 0, 1) := by decide +kernel
theorem dX7_digest_48 : decode cX7_digest 48 = .ok (.invokevirtual 183, 3) := by decide +kernel
theorem dX7_digest_51 : decode cX7_digest 51 = .ok (.i2l, 1) := by decide +kernel
theorem dX7_digest_52 : decode cX7_digest 52 = .ok (.ladd, 1) := by decide +kernel
theorem dX7_digest_53 : decode cX7_digest 53 = .ok (.lstore_n 1, 1) := by decide +kernel
theorem dX7_digest_54 : decode cX7_digest 54 = .ok (.ldc2_w 178, 3) := by decide +kernel
theorem dX7_digest_57 : decode cX7_digest 57 = .ok (.lload_n 1, 1) := by decide +kernel
theorem dX7_digest_58 : decode cX7_digest 58 = .ok (.lmul, 1) := by decide +kernel
theorem dX7_digest_59 : decode cX7_digest 59 = .ok (.aload_n 0, 1) := by decide +kernel
theorem dX7_digest_60 : decode cX7_digest 60 = .ok (.iload_n 3, 1) := by decide +kernel
theorem dX7_digest_61 : decode cX7_digest 61 = .ok (.iconst 1, 1) := by decide +kernel
theorem dX7_digest_62 : decode cX7_digest 62 = .ok (.iconst 1, 1) := by decide +kernel
theorem dX7_digest_63 : decode cX7_digest 63 = .ok (.invokevirtual 183, 3) := by decide +kernel
theorem dX7_digest_66 : decode cX7_digest 66 = .ok (.i2l, 1) := by decide +kernel
theorem dX7_digest_67 : decode cX7_digest 67 = .ok (.ladd, 1) := by decide +kernel
theorem dX7_digest_68 : decode cX7_digest 68 = .ok (.lstore_n 1, 1) := by decide +kernel
theorem dX7_digest_69 : decode cX7_digest 69 = .ok (.iinc 3 1, 3) := by decide +kernel
theorem dX7_digest_72 : decode cX7_digest 72 = .ok (.goto (-39), 3) := by decide +kernel
theorem dX7_digest_75 : decode cX7_digest 75 = .ok (.lload_n 1, 1) := by decide +kernel
theorem dX7_digest_76 : decode cX7_digest 76 = .ok (.aload_n 0, 1) := by decide +kernel
theorem dX7_digest_77 : decode cX7_digest 77 = .ok (.getfield 10, 3) := by decide +kernel
theorem dX7_digest_80 : decode cX7_digest 80 = .ok (.getfield 165, 3) := by decide +kernel
theorem dX7_digest_83 : decode cX7_digest 83 = .ok (.aload_n 0, 1) := by decide +kernel
theorem dX7_digest_84 : decode cX7_digest 84 = .ok (.getfield 10, 3) := by decide +kernel
theorem dX7_digest_87 : decode cX7_digest 87 = .ok (.getfield 108, 3) := by decide +kernel
theorem dX7_digest_90 : decode cX7_digest 90 = .ok (.iconst 3, 1) := by decide +kernel
theorem dX7_digest_91 : decode cX7_digest 91 = .ok (.imul, 1) := by decide +kernel
theorem dX7_digest_92 : decode cX7_digest 92 = .ok (.invokestatic 187, 3) := by decide +kernel
theorem dX7_digest_95 : decode cX7_digest 95 = .ok (.lstore_n 1, 1) := by decide +kernel
theorem dX7_digest_96 : decode cX7_digest 96 = .ok (.aload_n 0, 1) := by decide +kernel
theorem dX7_digest_97 : decode cX7_digest 97 = .ok (.getfield 10, 3) := by decide +kernel
theorem dX7_digest_100 : decode cX7_digest 100 = .ok (.getfield 121, 3) := by decide +kernel
theorem dX7_digest_103 : decode cX7_digest 103 = .ok (.ifnull 74, 3) := by decide +kernel
theorem dX7_digest_106 : decode cX7_digest 106 = .ok (.lload_n 1, 1) := by decide +kernel
theorem dX7_digest_107 : decode cX7_digest 107 = .ok (.aload_n 0, 1) := by decide +kernel
theorem dX7_digest_108 : decode cX7_digest 108 = .ok (.getfield 10, 3) := by decide +kernel
theorem dX7_digest_111 : decode cX7_digest 111 = .ok (.getfield 121, 3) := by decide +kernel
theorem dX7_digest_114 : decode cX7_digest 114 = .ok (.getfield 144, 3) := by decide +kernel
theorem dX7_digest_117 : decode cX7_digest 117 = .ok (.iconst 5, 1) := by decide +kernel
theorem dX7_digest_118 : decode cX7_digest 118 = .ok (.invokestatic 187, 3) := by decide +kernel
theorem dX7_digest_121 : decode cX7_digest 121 = .ok (.lstore_n 1, 1) := by decide +kernel
theorem dX7_digest_122 : decode cX7_digest 122 = .ok (.lload_n 1, 1) := by decide +kernel
theorem dX7_digest_123 : decode cX7_digest 123 = .ok (.aload_n 0, 1) := by decide +kernel
theorem dX7_digest_124 : decode cX7_digest 124 = .ok (.getfield 10, 3) := by decide +kernel
theorem dX7_digest_127 : decode cX7_digest 127 = .ok (.getfield 121, 3) := by decide +kernel
theorem dX7_digest_130 : decode cX7_digest 130 = .ok (.getfield 152, 3) := by decide +kernel
theorem dX7_digest_133 : decode cX7_digest 133 = .ok (.aload_n 0, 1) := by decide +kernel
theorem dX7_digest_134 : decode cX7_digest 134 = .ok (.getfield 10, 3) := by decide +kernel
theorem dX7_digest_137 : decode cX7_digest 137 = .ok (.getfield 121, 3) := by decide +kernel
theorem dX7_digest_140 : decode cX7_digest 140 = .ok (.getfield 149, 3) := by decide +kernel
theorem dX7_digest_143 : decode cX7_digest 143 = .ok (.bipush 7, 2) := by decide +kernel
theorem dX7_digest_145 : decode cX7_digest 145 = .ok (.imul, 1) := by decide +kernel
theorem dX7_digest_146 : decode cX7_digest 146 = .ok (.invokestatic 187, 3) := by decide +kernel
theorem dX7_digest_149 : decode cX7_digest 149 = .ok (.lstore_n 1, 1) := by decide +kernel
theorem dX7_digest_150 : decode cX7_digest 150 = .ok (.lload_n 1, 1) := by decide +kernel
theorem dX7_digest_151 : decode cX7_digest 151 = .ok (.aload_n 0, 1) := by decide +kernel
theorem dX7_digest_152 : decode cX7_digest 152 = .ok (.getfield 10, 3) := by decide +kernel
theorem dX7_digest_155 : decode cX7_digest 155 = .ok (.getfield 121, 3) := by decide +kernel
theorem dX7_digest_158 : decode cX7_digest 158 = .ok (.getfield 156, 3) := by decide +kernel
theorem dX7_digest_161 : decode cX7_digest 161 = .ok (.aload_n 0, 1) := by decide +kernel
theorem dX7_digest_162 : decode cX7_digest 162 = .ok (.getfield 10, 3) := by decide +kernel
theorem dX7_digest_165 : decode cX7_digest 165 = .ok (.getfield 121, 3) := by decide +kernel
theorem dX7_digest_168 : decode cX7_digest 168 = .ok (.getfield 155, 3) := by decide +kernel
theorem dX7_digest_171 : decode cX7_digest 171 = .ok (.iconst 5, 1) := by decide +kernel
theorem dX7_digest_172 : decode cX7_digest 172 = .ok (.imul, 1) := by decide +kernel
theorem dX7_digest_173 : decode cX7_digest 173 = .ok (.invokestatic 187, 3) := by decide +kernel
theorem dX7_digest_176 : decode cX7_digest 176 = .ok (.lstore_n 1, 1) := by decide +kernel
theorem dX7_digest_177 : decode cX7_digest 177 = .ok (.lload_n 1, 1) := by decide +kernel
theorem dX7_digest_178 : decode cX7_digest 178 = .ok (.lreturn, 1) := by decide +kernel
theorem dX7_isIn_0 : decode cX7_isIn 0 = .ok (.iload_n 0, 1) := by decide +kernel
theorem dX7_isIn_1 : decode cX7_isIn 1 = .ok (.iload_n 1, 1) := by decide +kernel
theorem dX7_isIn_2 : decode cX7_isIn 2 = .ok (.if_icmp .lt 12, 3) := by decide +kernel
theorem dX7_isIn_5 : decode cX7_isIn 5 = .ok (.iload_n 0, 1) := by decide +kernel
theorem dX7_isIn_6 : decode cX7_isIn 6 = .ok (.iload_n 2, 1) := by decide +kernel
theorem dX7_isIn_7 : decode cX7_isIn 7 = .ok (.if_icmp .gt 7, 3) := by decide +kernel
theorem dX7_isIn_10 : decode cX7_isIn 10 = .ok (.iconst 1, 1) := by decide +kernel
theorem dX7_isIn_11 : decode cX7_isIn 11 = .ok (.goto 4, 3) := by decide +kernel
theorem dX7_isIn_14 : decode cX7_isIn 14 = .ok (.iconst 0, 1) := by decide +kernel
theorem dX7_isIn_15 : decode cX7_isIn 15 = .ok (.ireturn, 1) := by decide +kernel
theorem dX7_isBox_0 : decode cX7_isBox 0 = .ok (.iload_n 0, 1) := by decide +kernel
theorem dX7_isBox_1 : decode cX7_isBox 1 = .ok (.iconst 0, 1) := by decide +kernel
theorem dX7_isBox_2 : decode cX7_isBox 2 = .ok (.bipush 47, 2) := by decide +kernel
theorem dX7_isBox_4 : decode cX7_isBox 4 = .ok (.invokestatic 45, 3) := by decide +kernel
theorem dX7_isBox_7 : decode cX7_isBox 7 = .ok (.ifCond .eq 37, 3) := by decide +kernel
theorem dX7_isBox_10 : decode cX7_isBox 10 = .ok (.iload_n 1, 1) := by decide +kernel
theorem dX7_isBox_11 : decode cX7_isBox 11 = .ok (.iconst 0, 1) := by decide +kernel
theorem dX7_isBox_12 : decode cX7_isBox 12 = .ok (.bipush 35, 2) := by decide +kernel
theorem dX7_isBox_14 : decode cX7_isBox 14 = .ok (.invokestatic 45, 3) := by decide +kernel
theorem dX7_isBox_17 : decode cX7_isBox 17 = .ok (.ifCond .eq 27, 3) := by decide +kernel
theorem dX7_isBox_20 : decode cX7_isBox 20 = .ok (.iload_n 2, 1) := by decide +kernel
theorem dX7_isBox_21 : decode cX7_isBox 21 = .ok (.iload_n 0, 1) := by decide +kernel
theorem dX7_isBox_22 : decode cX7_isBox 22 = .ok (.bipush 47, 2) := by decide +kernel
theorem dX7_isBox_24 : decode cX7_isBox 24 = .ok (.invokestatic 45, 3) := by decide +kernel
theorem dX7_isBox_27 : decode cX7_isBox 27 = .ok (.ifCond .eq 17, 3) := by decide +kernel
theorem dX7_isBox_30 : decode cX7_isBox 30 = .ok (.iload_n 3, 1) := by decide +kernel
theorem dX7_isBox_31 : decode cX7_isBox 31 = .ok (.iload_n 1, 1) := by decide +kernel
theorem dX7_isBox_32 : decode cX7_isBox 32 = .ok (.bipush 35, 2) := by decide +kernel
theorem dX7_isBox_34 : decode cX7_isBox 34 = .ok (.invokestatic 45, 3) := by decide +kernel
theorem dX7_isBox_37 : decode cX7_isBox 37 = .ok (.ifCond .eq 7, 3) := by decide +kernel
theorem dX7_isBox_40 : decode cX7_isBox 40 = .ok (.iconst 1, 1) := by decide +kernel
theorem dX7_isBox_41 : decode cX7_isBox 41 = .ok (.goto 4, 3) := by decide +kernel
theorem dX7_isBox_44 : decode cX7_isBox 44 = .ok (.iconst 0, 1) := by decide +kernel
theorem dX7_isBox_45 : decode cX7_isBox 45 = .ok (.ireturn, 1) := by decide +kernel
theorem dX7_isBand_0 : decode cX7_isBand 0 = .ok (.iload_n 0, 1) := by decide +kernel
theorem dX7_isBand_1 : decode cX7_isBand 1 = .ok (.iconst 0, 1) := by decide +kernel
theorem dX7_isBand_2 : decode cX7_isBand 2 = .ok (.bipush 35, 2) := by decide +kernel
theorem dX7_isBand_4 : decode cX7_isBand 4 = .ok (.invokestatic 45, 3) := by decide +kernel
theorem dX7_isBand_7 : decode cX7_isBand 7 = .ok (.ifCond .eq 25, 3) := by decide +kernel
theorem dX7_isBand_10 : decode cX7_isBand 10 = .ok (.iload_n 1, 1) := by decide +kernel
theorem dX7_isBand_11 : decode cX7_isBand 11 = .ok (.iconst 1, 1) := by decide +kernel
theorem dX7_isBand_12 : decode cX7_isBand 12 = .ok (.bipush 36, 2) := by decide +kernel
theorem dX7_isBand_14 : decode cX7_isBand 14 = .ok (.invokestatic 45, 3) := by decide +kernel
theorem dX7_isBand_17 : decode cX7_isBand 17 = .ok (.ifCond .eq 15, 3) := by decide +kernel
theorem dX7_isBand_20 : decode cX7_isBand 20 = .ok (.iload_n 0, 1) := by decide +kernel
theorem dX7_isBand_21 : decode cX7_isBand 21 = .ok (.iload_n 1, 1) := by decide +kernel
theorem dX7_isBand_22 : decode cX7_isBand 22 = .ok (.iadd, 1) := by decide +kernel
theorem dX7_isBand_23 : decode cX7_isBand 23 = .ok (.bipush 36, 2) := by decide +kernel
theorem dX7_isBand_25 : decode cX7_isBand 25 = .ok (.if_icmp .gt 7, 3) := by decide +kernel
theorem dX7_isBand_28 : decode cX7_isBand 28 = .ok (.iconst 1, 1) := by decide +kernel
theorem dX7_isBand_29 : decode cX7_isBand 29 = .ok (.goto 4, 3) := by decide +kernel
theorem dX7_isBand_32 : decode cX7_isBand 32 = .ok (.iconst 0, 1) := by decide +kernel
theorem dX7_isBand_33 : decode cX7_isBand 33 = .ok (.ireturn, 1) := by decide +kernel
theorem dX7_addAll_0 : decode cX7_addAll 0 = .ok (.lload_n 0, 1) := by decide +kernel
theorem dX7_addAll_1 : decode cX7_addAll 1 = .ok (.lstore 4, 2) := by decide +kernel
theorem dX7_addAll_3 : decode cX7_addAll 3 = .ok (.iconst 0, 1) := by decide +kernel
theorem dX7_addAll_4 : decode cX7_addAll 4 = .ok (.istore 6, 2) := by decide +kernel
theorem dX7_addAll_6 : decode cX7_addAll 6 = .ok (.iload 6, 2) := by decide +kernel
theorem dX7_addAll_8 : decode cX7_addAll 8 = .ok (.iload_n 3, 1) := by decide +kernel
theorem dX7_addAll_9 : decode cX7_addAll 9 = .ok (.if_icmp .ge 30, 3) := by decide +kernel
theorem dX7_addAll_12 : decode cX7_addAll 12 = .ok (.iload 6, 2) := by decide +kernel
theorem dX7_addAll_14 : decode cX7_addAll 14 = .ok (.aload_n 2, 1) := by decide +kernel
theorem dX7_addAll_15 : decode cX7_addAll 15 = .ok (.arraylength, 1) := by decide +kernel
theorem dX7_addAll_16 : decode cX7_addAll 16 = .ok (.if_icmp .ge 23, 3) := by decide +kernel
theorem dX7_addAll_19 : decode cX7_addAll 19 = .ok (.ldc2_w 178, 3) := by decide +kernel
theorem dX7_addAll_22 : decode cX7_addAll 22 = .ok (.lload 4, 2) := by decide +kernel
theorem dX7_addAll_24 : decode cX7_addAll 24 = .ok (.lmul, 1) := by decide +kernel
theorem dX7_addAll_25 : decode cX7_addAll 25 = .ok (.aload_n 2, 1) := by decide +kernel
theorem dX7_addAll_26 : decode cX7_addAll 26 = .ok (.iload 6, 2) := by decide +kernel
theorem dX7_addAll_28 : decode cX7_addAll 28 = .ok (.iaload, 1) := by decide +kernel
theorem dX7_addAll_29 : decode cX7_addAll 29 = .ok (.i2l, 1) := by decide +kernel
theorem dX7_addAll_30 : decode cX7_addAll 30 = .ok (.ladd, 1) := by decide +kernel
theorem dX7_addAll_31 : decode cX7_addAll 31 = .ok (.lstore 4, 2) := by decide +kernel
theorem dX7_addAll_33 : decode cX7_addAll 33 = .ok (.iinc 6 1, 3) := by decide +kernel
theorem dX7_addAll_36 : decode cX7_addAll 36 = .ok (.goto (-30), 3) := by decide +kernel
theorem dX7_addAll_39 : decode cX7_addAll 39 = .ok (.lload 4, 2) := by decide +kernel
theorem dX7_addAll_41 : decode cX7_addAll 41 = .ok (.lreturn, 1) := by decide +kernel
theorem dX7_remember_0 : decode cX7_remember 0 = .ok (.aload_n 0, 1) := by decide +kernel
theorem dX7_remember_1 : decode cX7_remember 1 = .ok (.getfield 20, 3) := by decide +kernel
theorem dX7_remember_4 : decode cX7_remember 4 = .ok (.iconst 4, 1) := by decide +kernel
theorem dX7_remember_5 : decode cX7_remember 5 = .ok (.if_icmp .lt 7, 3) := by decide +kernel
theorem dX7_remember_8 : decode cX7_remember 8 = .ok (.aload_n 0, 1) := by decide +kernel
theorem dX7_remember_9 : decode cX7_remember 9 = .ok (.invokevirtual 191, 3) := by decide +kernel
theorem dX7_remember_12 : decode cX7_remember 12 = .ok (.aload_n 0, 1) := by decide +kernel
theorem dX7_remember_13 : decode cX7_remember 13 = .ok (.getfield 16, 3) := by decide +kernel
theorem dX7_remember_16 : decode cX7_remember 16 = .ok (.aload_n 0, 1) := by decide +kernel
theorem dX7_remember_17 : decode cX7_remember 17 = .ok (.getfield 20, 3) := by decide +kernel
theorem dX7_remember_20 : decode cX7_remember 20 = .ok (.aaload, 1) := by decide +kernel
theorem dX7_remember_21 : decode cX7_remember 21 = .ok (.aload_n 0, 1) := by decide +kernel
theorem dX7_remember_22 : decode cX7_remember 22 = .ok (.getfield 10, 3) := by decide +kernel
theorem dX7_remember_25 : decode cX7_remember 25 = .ok (.invokevirtual 172, 3) := by decide +kernel
theorem dX7_remember_28 : decode cX7_remember 28 = .ok (.aload_n 0, 1) := by decide +kernel
theorem dX7_remember_29 : decode cX7_remember 29 = .ok (.dup, 1) := by decide +kernel
theorem dX7_remember_30 : decode cX7_remember 30 = .ok (.getfield 20, 3) := by decide +kernel
theorem dX7_remember_33 : decode cX7_remember 33 = .ok (.iconst 1, 1) := by decide +kernel
theorem dX7_remember_34 : decode cX7_remember 34 = .ok (.iadd, 1) := by decide +kernel
theorem dX7_remember_35 : decode cX7_remember 35 = .ok (.putfield 20, 3) := by decide +kernel
theorem dX7_remember_38 : decode cX7_remember 38 = .ok (.return_, 1) := by decide +kernel
theorem dX7_dropOldest_0 : decode cX7_dropOldest 0 = .ok (.aload_n 0, 1) := by decide +kernel
theorem dX7_dropOldest_1 : decode cX7_dropOldest 1 = .ok (.getfield 16, 3) := by decide +kernel
theorem dX7_dropOldest_4 : decode cX7_dropOldest 4 = .ok (.iconst 0, 1) := by decide +kernel
theorem dX7_dropOldest_5 : decode cX7_dropOldest 5 = .ok (.aaload, 1) := by decide +kernel
theorem dX7_dropOldest_6 : decode cX7_dropOldest 6 = .ok (.astore_n 1, 1) := by decide +kernel
theorem dX7_dropOldest_7 : decode cX7_dropOldest 7 = .ok (.iconst 1, 1) := by decide +kernel
theorem dX7_dropOldest_8 : decode cX7_dropOldest 8 = .ok (.istore_n 2, 1) := by decide +kernel
theorem dX7_dropOldest_9 : decode cX7_dropOldest 9 = .ok (.iload_n 2, 1) := by decide +kernel
theorem dX7_dropOldest_10 : decode cX7_dropOldest 10 = .ok (.iconst 4, 1) := by decide +kernel
theorem dX7_dropOldest_11 : decode cX7_dropOldest 11 = .ok (.if_icmp .ge 23, 3) := by decide +kernel
theorem dX7_dropOldest_14 : decode cX7_dropOldest 14 = .ok (.aload_n 0, 1) := by decide +kernel
theorem dX7_dropOldest_15 : decode cX7_dropOldest 15 = .ok (.getfield 16, 3) := by decide +kernel
theorem dX7_dropOldest_18 : decode cX7_dropOldest 18 = .ok (.iload_n 2, 1) := by decide +kernel
theorem dX7_dropOldest_19 : decode cX7_dropOldest 19 = .ok (.iconst 1, 1) := by decide +kernel
theorem dX7_dropOldest_20 : decode cX7_dropOldest 20 = .ok (.isub, 1) := by decide +kernel
theorem dX7_dropOldest_21 : decode cX7_dropOldest 21 = .ok (.aload_n 0, 1) := by decide +kernel
theorem dX7_dropOldest_22 : decode cX7_dropOldest 22 = .ok (.getfield 16, 3) := by decide +kernel
theorem dX7_dropOldest_25 : decode cX7_dropOldest 25 = .ok (.iload_n 2, 1) := by decide +kernel
theorem dX7_dropOldest_26 : decode cX7_dropOldest 26 = .ok (.aaload, 1) := by decide +kernel
theorem dX7_dropOldest_27 : decode cX7_dropOldest 27 = .ok (.aastore, 1) := by decide +kernel
theorem dX7_dropOldest_28 : decode cX7_dropOldest 28 = .ok (.iinc 2 1, 3) := by decide +kernel
theorem dX7_dropOldest_31 : decode cX7_dropOldest 31 = .ok (.goto (-22), 3) := by decide +kernel
theorem dX7_dropOldest_34 : decode cX7_dropOldest 34 = .ok (.aload_n 0, 1) := by decide +kernel
theorem dX7_dropOldest_35 : decode cX7_dropOldest 35 = .ok (.getfield 16, 3) := by decide +kernel
theorem dX7_dropOldest_38 : decode cX7_dropOldest 38 = .ok (.iconst 3, 1) := by decide +kernel
theorem dX7_dropOldest_39 : decode cX7_dropOldest 39 = .ok (.aload_n 1, 1) := by decide +kernel
theorem dX7_dropOldest_40 : decode cX7_dropOldest 40 = .ok (.aastore, 1) := by decide +kernel
theorem dX7_dropOldest_41 : decode cX7_dropOldest 41 = .ok (.aload_n 0, 1) := by decide +kernel
theorem dX7_dropOldest_42 : decode cX7_dropOldest 42 = .ok (.iconst 3, 1) := by decide +kernel
theorem dX7_dropOldest_43 : decode cX7_dropOldest 43 = .ok (.putfield 20, 3) := by decide +kernel
theorem dX7_dropOldest_46 : decode cX7_dropOldest 46 = .ok (.return_, 1) := by decide +kernel
theorem dX7_greatestBase_0 : decode cX7_greatestBase 0 = .ok (.bipush 12, 2) := by decide +kernel
theorem dX7_greatestBase_2 : decode cX7_greatestBase 2 = .ok (.istore_n 2, 1) := by decide +kernel
theorem dX7_greatestBase_3 : decode cX7_greatestBase 3 = .ok (.iload_n 2, 1) := by decide +kernel
theorem dX7_greatestBase_4 : decode cX7_greatestBase 4 = .ok (.iconst 1, 1) := by decide +kernel
theorem dX7_greatestBase_5 : decode cX7_greatestBase 5 = .ok (.if_icmp .lt 36, 3) := by decide +kernel
theorem dX7_greatestBase_8 : decode cX7_greatestBase 8 = .ok (.aload_n 0, 1) := by decide +kernel
theorem dX7_greatestBase_9 : decode cX7_greatestBase 9 = .ok (.getfield 41, 3) := by decide +kernel
theorem dX7_greatestBase_12 : decode cX7_greatestBase 12 = .ok (.aload_n 0, 1) := by decide +kernel
theorem dX7_greatestBase_13 : decode cX7_greatestBase 13 = .ok (.getfield 10, 3) := by decide +kernel
theorem dX7_greatestBase_16 : decode cX7_greatestBase 16 = .ok (.iload_n 2, 1) := by decide +kernel
theorem dX7_greatestBase_17 : decode cX7_greatestBase 17 = .ok (.aload_n 0, 1) := by decide +kernel
theorem dX7_greatestBase_18 : decode cX7_greatestBase 18 = .ok (.getfield 10, 3) := by decide +kernel
theorem dX7_greatestBase_21 : decode cX7_greatestBase 21 = .ok (.getfield 118, 3) := by decide +kernel
theorem dX7_greatestBase_24 : decode cX7_greatestBase 24 = .ok (.iconst 0, 1) := by decide +kernel
theorem dX7_greatestBase_25 : decode cX7_greatestBase 25 = .ok (.iaload, 1) := by decide +kernel
theorem dX7_greatestBase_26 : decode cX7_greatestBase 26 = .ok (.iload_n 1, 1) := by decide +kernel
theorem dX7_greatestBase_27 : decode cX7_greatestBase 27 = .ok (.invokevirtual 140, 3) := by decide +kernel
theorem dX7_greatestBase_30 : decode cX7_greatestBase 30 = .ok (.ifCond .eq 5, 3) := by decide +kernel
theorem dX7_greatestBase_33 : decode cX7_greatestBase 33 = .ok (.iload_n 2, 1) := by decide +kernel
theorem dX7_greatestBase_34 : decode cX7_greatestBase 34 = .ok (.ireturn, 1) := by decide +kernel
theorem dX7_greatestBase_35 : decode cX7_greatestBase 35 = .ok (.iinc 2 (-1), 3) := by decide +kernel
theorem dX7_greatestBase_38 : decode cX7_greatestBase 38 = .ok (.goto (-35), 3) := by decide +kernel
theorem dX7_greatestBase_41 : decode cX7_greatestBase 41 = .ok (.iconst (-1), 1) := by decide +kernel
theorem dX7_greatestBase_42 : decode cX7_greatestBase 42 = .ok (.ireturn, 1) := by decide +kernel
theorem dJ13_bitCount_95d88_0 : decode cJ13_bitCount_95d88 0 = .ok (.lload_n 0, 1) := by decide +kernel
theorem dJ13_bitCount_95d88_1 : decode cJ13_bitCount_95d88 1 = .ok (.lload_n 0, 1) := by decide +kernel
theorem dJ13_bitCount_95d88_2 : decode cJ13_bitCount_95d88 2 = .ok (.iconst 1, 1) := by decide +kernel
theorem dJ13_bitCount_95d88_3 : decode cJ13_bitCount_95d88 3 = .ok (.lushr, 1) := by decide +kernel
theorem dJ13_bitCount_95d88_4 : decode cJ13_bitCount_95d88 4 = .ok (.ldc2_w 314, 3) := by decide +kernel
theorem dJ13_bitCount_95d88_7 : decode cJ13_bitCount_95d88 7 = .ok (.land, 1) := by decide +kernel
theorem dJ13_bitCount_95d88_8 : decode cJ13_bitCount_95d88 8 = .ok (.lsub, 1) := by decide +kernel
theorem dJ13_bitCount_95d88_9 : decode cJ13_bitCount_95d88 9 = .ok (.lstore_n 0, 1) := by decide +kernel
theorem dJ13_bitCount_95d88_10 : decode cJ13_bitCount_95d88 10 = .ok (.lload_n 0, 1) := by decide +kernel
theorem dJ13_bitCount_95d88_11 : decode cJ13_bitCount_95d88 11 = .ok (.ldc2_w 316, 3) := by decide +kernel
theorem dJ13_bitCount_95d88_14 : decode cJ13_bitCount_95d88 14 = .ok (.land, 1) := by decide +kernel
theorem dJ13_bitCount_95d88_15 : decode cJ13_bitCount_95d88 15 = .ok (.lload_n 0, 1) := by decide +kernel
theorem dJ13_bitCount_95d88_16 : decode cJ13_bitCount_95d88 16 = .ok (.iconst 2, 1) := by decide +kernel
theorem dJ13_bitCount_95d88_17 : decode cJ13_bitCount_95d88 17 = .ok (.lushr, 1) := by decide +kernel
theorem dJ13_bitCount_95d88_18 : decode cJ13_bitCount_95d88 18 = .ok (.ldc2_w 316, 3) := by decide +kernel
theorem dJ13_bitCount_95d88_21 : decode cJ13_bitCount_95d88 21 = .ok (.land, 1) := by decide +kernel
theorem dJ13_bitCount_95d88_22 : decode cJ13_bitCount_95d88 22 = .ok (.ladd, 1) := by decide +kernel
theorem dJ13_bitCount_95d88_23 : decode cJ13_bitCount_95d88 23 = .ok (.lstore_n 0, 1) := by decide +kernel
theorem dJ13_bitCount_95d88_24 : decode cJ13_bitCount_95d88 24 = .ok (.lload_n 0, 1) := by decide +kernel
theorem dJ13_bitCount_95d88_25 : decode cJ13_bitCount_95d88 25 = .ok (.lload_n 0, 1) := by decide +kernel
theorem dJ13_bitCount_95d88_26 : decode cJ13_bitCount_95d88 26 = .ok (.iconst 4, 1) := by decide +kernel
theorem dJ13_bitCount_95d88_27 : decode cJ13_bitCount_95d88 27 = .ok (.lushr, 1) := by decide +kernel
theorem dJ13_bitCount_95d88_28 : decode cJ13_bitCount_95d88 28 = .ok (.ladd, 1) := by decide +kernel
theorem dJ13_bitCount_95d88_29 : decode cJ13_bitCount_95d88 29 = .ok (.ldc2_w 318, 3) := by decide +kernel
theorem dJ13_bitCount_95d88_32 : decode cJ13_bitCount_95d88 32 = .ok (.land, 1) := by decide +kernel
theorem dJ13_bitCount_95d88_33 : decode cJ13_bitCount_95d88 33 = .ok (.lstore_n 0, 1) := by decide +kernel
theorem dJ13_bitCount_95d88_34 : decode cJ13_bitCount_95d88 34 = .ok (.lload_n 0, 1) := by decide +kernel
theorem dJ13_bitCount_95d88_35 : decode cJ13_bitCount_95d88 35 = .ok (.lload_n 0, 1) := by decide +kernel
theorem dJ13_bitCount_95d88_36 : decode cJ13_bitCount_95d88 36 = .ok (.bipush 8, 2) := by decide +kernel
theorem dJ13_bitCount_95d88_38 : decode cJ13_bitCount_95d88 38 = .ok (.lushr, 1) := by decide +kernel
theorem dJ13_bitCount_95d88_39 : decode cJ13_bitCount_95d88 39 = .ok (.ladd, 1) := by decide +kernel
theorem dJ13_bitCount_95d88_40 : decode cJ13_bitCount_95d88 40 = .ok (.lstore_n 0, 1) := by decide +kernel
theorem dJ13_bitCount_95d88_41 : decode cJ13_bitCount_95d88 41 = .ok (.lload_n 0, 1) := by decide +kernel
theorem dJ13_bitCount_95d88_42 : decode cJ13_bitCount_95d88 42 = .ok (.lload_n 0, 1) := by decide +kernel
theorem dJ13_bitCount_95d88_43 : decode cJ13_bitCount_95d88 43 = .ok (.bipush 16, 2) := by decide +kernel
theorem dJ13_bitCount_95d88_45 : decode cJ13_bitCount_95d88 45 = .ok (.lushr, 1) := by decide +kernel
theorem dJ13_bitCount_95d88_46 : decode cJ13_bitCount_95d88 46 = .ok (.ladd, 1) := by decide +kernel
theorem dJ13_bitCount_95d88_47 : decode cJ13_bitCount_95d88 47 = .ok (.lstore_n 0, 1) := by decide +kernel
theorem dJ13_bitCount_95d88_48 : decode cJ13_bitCount_95d88 48 = .ok (.lload_n 0, 1) := by decide +kernel
theorem dJ13_bitCount_95d88_49 : decode cJ13_bitCount_95d88 49 = .ok (.lload_n 0, 1) := by decide +kernel
theorem dJ13_bitCount_95d88_50 : decode cJ13_bitCount_95d88 50 = .ok (.bipush 32, 2) := by decide +kernel
theorem dJ13_bitCount_95d88_52 : decode cJ13_bitCount_95d88 52 = .ok (.lushr, 1) := by decide +kernel
theorem dJ13_bitCount_95d88_53 : decode cJ13_bitCount_95d88 53 = .ok (.ladd, 1) := by decide +kernel
theorem dJ13_bitCount_95d88_54 : decode cJ13_bitCount_95d88 54 = .ok (.lstore_n 0, 1) := by decide +kernel
theorem dJ13_bitCount_95d88_55 : decode cJ13_bitCount_95d88 55 = .ok (.lload_n 0, 1) := by decide +kernel
theorem dJ13_bitCount_95d88_56 : decode cJ13_bitCount_95d88 56 = .ok (.l2i, 1) := by decide +kernel
theorem dJ13_bitCount_95d88_57 : decode cJ13_bitCount_95d88 57 = .ok (.bipush 127, 2) := by decide +kernel
theorem dJ13_bitCount_95d88_59 : decode cJ13_bitCount_95d88 59 = .ok (.iand, 1) := by decide +kernel
theorem dJ13_bitCount_95d88_60 : decode cJ13_bitCount_95d88 60 = .ok (.ireturn, 1) := by decide +kernel
theorem dJ9_abs_0f7a4_0 : decode cJ9_abs_0f7a4 0 = .ok (.iload_n 0, 1) := by decide +kernel
theorem dJ9_abs_0f7a4_1 : decode cJ9_abs_0f7a4 1 = .ok (.ifCond .ge 8, 3) := by decide +kernel
theorem dJ9_abs_0f7a4_4 : decode cJ9_abs_0f7a4 4 = .ok (.iload_n 0, 1) := by decide +kernel
theorem dJ9_abs_0f7a4_5 : decode cJ9_abs_0f7a4 5 = .ok (.ineg, 1) := by decide +kernel
theorem dJ9_abs_0f7a4_6 : decode cJ9_abs_0f7a4 6 = .ok (.goto 4, 3) := by decide +kernel
theorem dJ9_abs_0f7a4_9 : decode cJ9_abs_0f7a4 9 = .ok (.iload_n 0, 1) := by decide +kernel
theorem dJ9_abs_0f7a4_10 : decode cJ9_abs_0f7a4 10 = .ok (.ireturn, 1) := by decide +kernel
theorem dJ9_max_7cf53_0 : decode cJ9_max_7cf53 0 = .ok (.iload_n 0, 1) := by decide +kernel
theorem dJ9_max_7cf53_1 : decode cJ9_max_7cf53 1 = .ok (.iload_n 1, 1) := by decide +kernel
theorem dJ9_max_7cf53_2 : decode cJ9_max_7cf53 2 = .ok (.if_icmp .lt 7, 3) := by decide +kernel
theorem dJ9_max_7cf53_5 : decode cJ9_max_7cf53 5 = .ok (.iload_n 0, 1) := by decide +kernel
theorem dJ9_max_7cf53_6 : decode cJ9_max_7cf53 6 = .ok (.goto 4, 3) := by decide +kernel
theorem dJ9_max_7cf53_9 : decode cJ9_max_7cf53 9 = .ok (.iload_n 1, 1) := by decide +kernel
theorem dJ9_max_7cf53_10 : decode cJ9_max_7cf53 10 = .ok (.ireturn, 1) := by decide +kernel
theorem dJ9_min_7cf53_0 : decode cJ9_min_7cf53 0 = .ok (.iload_n 0, 1) := by decide +kernel
theorem dJ9_min_7cf53_1 : decode cJ9_min_7cf53 1 = .ok (.iload_n 1, 1) := by decide +kernel
theorem dJ9_min_7cf53_2 : decode cJ9_min_7cf53 2 = .ok (.if_icmp .gt 7, 3) := by decide +kernel
theorem dJ9_min_7cf53_5 : decode cJ9_min_7cf53 5 = .ok (.iload_n 0, 1) := by decide +kernel
theorem dJ9_min_7cf53_6 : decode cJ9_min_7cf53 6 = .ok (.goto 4, 3) := by decide +kernel
theorem dJ9_min_7cf53_9 : decode cJ9_min_7cf53 9 = .ok (.iload_n 1, 1) := by decide +kernel
theorem dJ9_min_7cf53_10 : decode cJ9_min_7cf53 10 = .ok (.ireturn, 1) := by decide +kernel
theorem dJ7_fill_53178_0 : decode cJ7_fill_53178 0 = .ok (.iconst 0, 1) := by decide +kernel
theorem dJ7_fill_53178_1 : decode cJ7_fill_53178 1 = .ok (.istore_n 2, 1) := by decide +kernel
theorem dJ7_fill_53178_2 : decode cJ7_fill_53178 2 = .ok (.aload_n 0, 1) := by decide +kernel
theorem dJ7_fill_53178_3 : decode cJ7_fill_53178 3 = .ok (.arraylength, 1) := by decide +kernel
theorem dJ7_fill_53178_4 : decode cJ7_fill_53178 4 = .ok (.istore_n 3, 1) := by decide +kernel
theorem dJ7_fill_53178_5 : decode cJ7_fill_53178 5 = .ok (.iload_n 2, 1) := by decide +kernel
theorem dJ7_fill_53178_6 : decode cJ7_fill_53178 6 = .ok (.iload_n 3, 1) := by decide +kernel
theorem dJ7_fill_53178_7 : decode cJ7_fill_53178 7 = .ok (.if_icmp .ge 13, 3) := by decide +kernel
theorem dJ7_fill_53178_10 : decode cJ7_fill_53178 10 = .ok (.aload_n 0, 1) := by decide +kernel
theorem dJ7_fill_53178_11 : decode cJ7_fill_53178 11 = .ok (.iload_n 2, 1) := by decide +kernel
theorem dJ7_fill_53178_12 : decode cJ7_fill_53178 12 = .ok (.iload_n 1, 1) := by decide +kernel
theorem dJ7_fill_53178_13 : decode cJ7_fill_53178 13 = .ok (.iastore, 1) := by decide +kernel
theorem dJ7_fill_53178_14 : decode cJ7_fill_53178 14 = .ok (.iinc 2 1, 3) := by decide +kernel
theorem dJ7_fill_53178_17 : decode cJ7_fill_53178 17 = .ok (.goto (-12), 3) := by decide +kernel
theorem dJ7_fill_53178_20 : decode cJ7_fill_53178 20 = .ok (.return_, 1) := by decide +kernel
end
section
theorem dX8_init_0 : decode cX8_init 0 = .ok (.aload_n 0, 1) := by decide +kernel
theorem dX8_init_1 : decode cX8_init 1 = .ok (.invokespecial 1, 3) := by decide +kernel
theorem dX8_init_4 : decode cX8_init 4 = .ok (.aload_n 0, 1) := by decide +kernel
theorem dX8_init_5 : decode cX8_init 5 = .ok (.sipush 1285, 3) := by decide +kernel
theorem dX8_init_8 : decode cX8_init 8 = .ok (.newarray .int, 2) := by decide +kernel
theorem dX8_init_10 : decode cX8_init 10 = .ok (.putfield 7, 3) := by decide +kernel
theorem dX8_init_13 : decode cX8_init 13 = .ok (.aload_n 0, 1) := by decide +kernel
theorem dX8_init_14 : decode cX8_init 14 = .ok (.sipush 1296, 3) := by decide +kernel
theorem dX8_init_17 : decode cX8_init 17 = .ok (.newarray .int, 2) := by decide +kernel
theorem dX8_init_19 : decode cX8_init 19 = .ok (.putfield 13, 3) := by decide +kernel
theorem dX8_init_22 : decode cX8_init 22 = .ok (.aload_n 0, 1) := by decide +kernel
theorem dX8_init_23 : decode cX8_init 23 = .ok (.sipush 1296, 3) := by decide +kernel
theorem dX8_init_26 : decode cX8_init 26 = .ok (.newarray .int, 2) := by decide +kernel
theorem dX8_init_28 : decode cX8_init 28 = .ok (.putfield 16, 3) := by decide +kernel
theorem dX8_init_31 : decode cX8_init 31 = .ok (.aload_n 0, 1) := by decide +kernel
theorem dX8_init_32 : decode cX8_init 32 = .ok (.bipush 36, 2) := by decide +kernel
theorem dX8_init_34 : decode cX8_init 34 = .ok (.newarray .long, 2) := by decide +kernel
theorem dX8_init_36 : decode cX8_init 36 = .ok (.putfield 19, 3) := by decide +kernel
theorem dX8_init_39 : decode cX8_init 39 = .ok (.aload_n 0, 1) := by decide +kernel
theorem dX8_init_40 : decode cX8_init 40 = .ok (.bipush 98, 2) := by decide +kernel
theorem dX8_init_42 : decode cX8_init 42 = .ok (.newarray .int, 2) := by decide +kernel
theorem dX8_init_44 : decode cX8_init 44 = .ok (.putfield 23, 3) := by decide +kernel
theorem dX8_init_47 : decode cX8_init 47 = .ok (.aload_n 0, 1) := by decide +kernel
theorem dX8_init_48 : decode cX8_init 48 = .ok (.bipush 70, 2) := by decide +kernel
theorem dX8_init_50 : decode cX8_init 50 = .ok (.newarray .int, 2) := by decide +kernel
theorem dX8_init_52 : decode cX8_init 52 = .ok (.putfield 26, 3) := by decide +kernel
theorem dX8_init_55 : decode cX8_init 55 = .ok (.aload_n 0, 1) := by decide +kernel
theorem dX8_init_56 : decode cX8_init 56 = .ok (.bipush 14, 2) := by decide +kernel
theorem dX8_init_58 : decode cX8_init 58 = .ok (.newarray .int, 2) := by decide +kernel
theorem dX8_init_60 : decode cX8_init 60 = .ok (.putfield 29, 3) := by decide +kernel
theorem dX8_init_63 : decode cX8_init 63 = .ok (.aload_n 0, 1) := by decide +kernel
theorem dX8_init_64 : decode cX8_init 64 = .ok (.bipush 14, 2) := by decide +kernel
theorem dX8_init_66 : decode cX8_init 66 = .ok (.newarray .int, 2) := by decide +kernel
theorem dX8_init_68 : decode cX8_init 68 = .ok (.putfield 32, 3) := by decide +kernel
theorem dX8_init_71 : decode cX8_init 71 = .ok (.aload_n 0, 1) := by decide +kernel
theorem dX8_init_72 : decode cX8_init 72 = .ok (.bipush 80, 2) := by decide +kernel
theorem dX8_init_74 : decode cX8_init 74 = .ok (.newarray .int, 2) := by decide +kernel
theorem dX8_init_76 : decode cX8_init 76 = .ok (.putfield 35, 3) := by decide +kernel
theorem dX8_init_79 : decode cX8_init 79 = .ok (.aload_n 0, 1) := by decide +kernel
theorem dX8_init_80 : decode cX8_init 80 = .ok (.bipush 42, 2) := by decide +kernel
theorem dX8_init_82 : decode cX8_init 82 = .ok (.newarray .int, 2) := by decide +kernel
theorem dX8_init_84 : decode cX8_init 84 = .ok (.putfield 38, 3) := by decide +kernel
theorem dX8_init_87 : decode cX8_init 87 = .ok (.aload_n 0, 1) := by decide +kernel
theorem dX8_init_88 : decode cX8_init 88 = .ok (.getfield 7, 3) := by decide +kernel
theorem dX8_init_91 : decode cX8_init 91 = .ok (.bipush 74, 2) := by decide +kernel
theorem dX8_init_93 : decode cX8_init 93 = .ok (.iconst 1, 1) := by decide +kernel
theorem dX8_init_94 : decode cX8_init 94 = .ok (.iastore, 1) := by decide +kernel
theorem dX8_init_95 : decode cX8_init 95 = .ok (.aload_n 0, 1) := by decide +kernel
theorem dX8_init_96 : decode cX8_init 96 = .ok (.getfield 7, 3) := by decide +kernel
theorem dX8_init_99 : decode cX8_init 99 = .ok (.bipush 75, 2) := by decide +kernel
theorem dX8_init_101 : decode cX8_init 101 = .ok (.iconst 1, 1) := by decide +kernel
theorem dX8_init_102 : decode cX8_init 102 = .ok (.iastore, 1) := by decide +kernel
theorem dX8_init_103 : decode cX8_init 103 = .ok (.aload_n 0, 1) := by decide +kernel
theorem dX8_init_104 : decode cX8_init 104 = .ok (.getfield 7, 3) := by decide +kernel
theorem dX8_init_107 : decode cX8_init 107 = .ok (.bipush 76, 2) := by decide +kernel
theorem dX8_init_109 : decode cX8_init 109 = .ok (.iconst 1, 1) := by decide +kernel
theorem dX8_init_110 : decode cX8_init 110 = .ok (.iastore, 1) := by decide +kernel
theorem dX8_init_111 : decode cX8_init 111 = .ok (.aload_n 0, 1) := by decide +kernel
theorem dX8_init_112 : decode cX8_init 112 = .ok (.getfield 7, 3) := by decide +kernel
theorem dX8_init_115 : decode cX8_init 115 = .ok (.bipush 77, 2) := by decide +kernel
theorem dX8_init_117 : decode cX8_init 117 = .ok (.iconst 1, 1) := by decide +kernel
theorem dX8_init_118 : decode cX8_init 118 = .ok (.iastore, 1) := by decide +kernel
theorem dX8_init_119 : decode cX8_init 119 = .ok (.aload_n 0, 1) := by decide +kernel
theorem dX8_init_120 : decode cX8_init 120 = .ok (.getfield 7, 3) := by decide +kernel
theorem dX8_init_123 : decode cX8_init 123 = .ok (.bipush 79, 2) := by decide +kernel
theorem dX8_init_125 : decode cX8_init 125 = .ok (.iconst 1, 1) := by decide +kernel
theorem dX8_init_126 : decode cX8_init 126 = .ok (.iastore, 1) := by decide +kernel
theorem dX8_init_127 : decode cX8_init 127 = .ok (.aload_n 0, 1) := by decide +kernel
theorem dX8_init_128 : decode cX8_init 128 = .ok (.getfield 7, 3) := by decide +kernel
theorem dX8_init_131 : decode cX8_init 131 = .ok (.bipush 80, 2) := by decide +kernel
theorem dX8_init_133 : decode cX8_init 133 = .ok (.iconst 1, 1) := by decide +kernel
theorem dX8_init_134 : decode cX8_init 134 = .ok (.iastore, 1) := by decide +kernel
theorem dX8_init_135 : decode cX8_init 135 = .ok (.aload_n 0, 1) := by decide +kernel
theorem dX8_init_136 : decode cX8_init 136 = .ok (.getfield 7, 3) := by decide +kernel
theorem dX8_init_139 : decode cX8_init 139 = .ok (.bipush 81, 2) := by decide +kernel
theorem dX8_init_141 : decode cX8_init 141 = .ok (.bipush 9, 2) := by decide +kernel
theorem dX8_init_143 : decode cX8_init 143 = .ok (.iastore, 1) := by decide +kernel
theorem dX8_init_144 : decode cX8_init 144 = .ok (.return_, 1) := by decide +kernel
theorem dX8_in_0 : decode cX8_in 0 = .ok (.iload_n 0, 1) := by decide +kernel
theorem dX8_in_1 : decode cX8_in 1 = .ok (.iload_n 1, 1) := by decide +kernel
theorem dX8_in_2 : decode cX8_in 2 = .ok (.if_icmp .lt 12, 3) := by decide +kernel
theorem dX8_in_5 : decode cX8_in 5 = .ok (.iload_n 0, 1) := by decide +kernel
theorem dX8_in_6 : decode cX8_in 6 = .ok (.iload_n 2, 1) := by decide +kernel
theorem dX8_in_7 : decode cX8_in 7 = .ok (.if_icmp .gt 7, 3) := by decide +kernel
theorem dX8_in_10 : decode cX8_in 10 = .ok (.iconst 1, 1) := by decide +kernel
theorem dX8_in_11 : decode cX8_in 11 = .ok (.goto 4, 3) := by decide +kernel
theorem dX8_in_14 : decode cX8_in 14 = .ok (.iconst 0, 1) := by decide +kernel
theorem dX8_in_15 : decode cX8_in 15 = .ok (.ireturn, 1) := by decide +kernel
theorem dX8_copies_0 : decode cX8_copies 0 = .ok (.iconst 0, 1) := by decide +kernel
theorem dX8_copies_1 : decode cX8_copies 1 = .ok (.istore_n 3, 1) := by decide +kernel
theorem dX8_copies_2 : decode cX8_copies 2 = .ok (.iload_n 3, 1) := by decide +kernel
theorem dX8_copies_3 : decode cX8_copies 3 = .ok (.sipush 257, 3) := by decide +kernel
theorem dX8_copies_6 : decode cX8_copies 6 = .ok (.if_icmp .ge 25, 3) := by decide +kernel
theorem dX8_copies_9 : decode cX8_copies 9 = .ok (.aload_n 0, 1) := by decide +kernel
theorem dX8_copies_10 : decode cX8_copies 10 = .ok (.getfield 7, 3) := by decide +kernel
theorem dX8_copies_13 : decode cX8_copies 13 = .ok (.iload_n 2, 1) := by decide +kernel
theorem dX8_copies_14 : decode cX8_copies 14 = .ok (.iload_n 3, 1) := by decide +kernel
theorem dX8_copies_15 : decode cX8_copies 15 = .ok (.iadd, 1) := by decide +kernel
theorem dX8_copies_16 : decode cX8_copies 16 = .ok (.aload_n 0, 1) := by decide +kernel
theorem dX8_copies_17 : decode cX8_copies 17 = .ok (.getfield 7, 3) := by decide +kernel
theorem dX8_copies_20 : decode cX8_copies 20 = .ok (.iload_n 1, 1) := by decide +kernel
theorem dX8_copies_21 : decode cX8_copies 21 = .ok (.iload_n 3, 1) := by decide +kernel
theorem dX8_copies_22 : decode cX8_copies 22 = .ok (.iadd, 1) := by decide +kernel
theorem dX8_copies_23 : decode cX8_copies 23 = .ok (.iaload, 1) := by decide +kernel
theorem dX8_copies_24 : decode cX8_copies 24 = .ok (.iastore, 1) := by decide +kernel
theorem dX8_copies_25 : decode cX8_copies 25 = .ok (.iinc 3 1, 3) := by decide +kernel
theorem dX8_copies_28 : decode cX8_copies 28 = .ok (.goto (-26), 3) := by decide +kernel
theorem dX8_copies_31 : decode cX8_copies 31 = .ok (.return_, 1) := by decide +kernel
theorem dX8_records_0 : decode cX8_records 0 = .ok (.iconst 1, 1) := by decide +kernel
theorem dX8_records_1 : decode cX8_records 1 = .ok (.istore_n 1, 1) := by decide +kernel
theorem dX8_records_2 : decode cX8_records 2 = .ok (.iload_n 1, 1) := by decide +kernel
theorem dX8_records_3 : decode cX8_records 3 = .ok (.iconst 4, 1) := by decide +kernel
theorem dX8_records_4 : decode cX8_records 4 = .ok (.if_icmp .ge 33, 3) := by decide +kernel
theorem dX8_records_7 : decode cX8_records 7 = .ok (.aload_n 0, 1) := by decide +kernel
theorem dX8_records_8 : decode cX8_records 8 = .ok (.getfield 41, 3) := by decide +kernel
theorem dX8_records_11 : decode cX8_records 11 = .ok (.iconst 4, 1) := by decide +kernel
theorem dX8_records_12 : decode cX8_records 12 = .ok (.if_icmp .ne 25, 3) := by decide +kernel
theorem dX8_records_15 : decode cX8_records 15 = .ok (.aload_n 0, 1) := by decide +kernel
theorem dX8_records_16 : decode cX8_records 16 = .ok (.sipush 257, 3) := by decide +kernel
theorem dX8_records_19 : decode cX8_records 19 = .ok (.iload_n 1, 1) := by decide +kernel
theorem dX8_records_20 : decode cX8_records 20 = .ok (.iconst 1, 1) := by decide +kernel
theorem dX8_records_21 : decode cX8_records 21 = .ok (.iadd, 1) := by decide +kernel
theorem dX8_records_22 : decode cX8_records 22 = .ok (.imul, 1) := by decide +kernel
theorem dX8_records_23 : decode cX8_records 23 = .ok (.sipush 257, 3) := by decide +kernel
theorem dX8_records_26 : decode cX8_records 26 = .ok (.iload_n 1, 1) := by decide +kernel
theorem dX8_records_27 : decode cX8_records 27 = .ok (.imul, 1) := by decide +kernel
theorem dX8_records_28 : decode cX8_records 28 = .ok (.invokevirtual 45, 3) := by decide +kernel
theorem dX8_records_31 : decode cX8_records 31 = .ok (.iinc 1 1, 3) := by decide +kernel
theorem dX8_records_34 : decode cX8_records 34 = .ok (.goto (-32), 3) := by decide +kernel
theorem dX8_records_37 : decode cX8_records 37 = .ok (.aload_n 0, 1) := by decide +kernel
theorem dX8_records_38 : decode cX8_records 38 = .ok (.dup, 1) := by decide +kernel
theorem dX8_records_39 : decode cX8_records 39 = .ok (.getfield 41, 3) := by decide +kernel
theorem dX8_records_42 : decode cX8_records 42 = .ok (.aload_n 0, 1) := by decide +kernel
theorem dX8_records_43 : decode cX8_records 43 = .ok (.getfield 41, 3) := by decide +kernel
theorem dX8_records_46 : decode cX8_records 46 = .ok (.iconst 4, 1) := by decide +kernel
theorem dX8_records_47 : decode cX8_records 47 = .ok (.if_icmp .ne 7, 3) := by decide +kernel
theorem dX8_records_50 : decode cX8_records 50 = .ok (.iconst 1, 1) := by decide +kernel
theorem dX8_records_51 : decode cX8_records 51 = .ok (.goto 4, 3) := by decide +kernel
theorem dX8_records_54 : decode cX8_records 54 = .ok (.iconst 0, 1) := by decide +kernel
theorem dX8_records_55 : decode cX8_records 55 = .ok (.isub, 1) := by decide +kernel
theorem dX8_records_56 : decode cX8_records 56 = .ok (.putfield 41, 3) := by decide +kernel
theorem dX8_records_59 : decode cX8_records 59 = .ok (.aload_n 0, 1) := by decide +kernel
theorem dX8_records_60 : decode cX8_records 60 = .ok (.dup, 1) := by decide +kernel
theorem dX8_records_61 : decode cX8_records 61 = .ok (.getfield 41, 3) := by decide +kernel
theorem dX8_records_64 : decode cX8_records 64 = .ok (.iconst 1, 1) := by decide +kernel
theorem dX8_records_65 : decode cX8_records 65 = .ok (.iadd, 1) := by decide +kernel
theorem dX8_records_66 : decode cX8_records 66 = .ok (.putfield 41, 3) := by decide +kernel
theorem dX8_records_69 : decode cX8_records 69 = .ok (.aload_n 0, 1) := by decide +kernel
theorem dX8_records_70 : decode cX8_records 70 = .ok (.iconst 0, 1) := by decide +kernel
theorem dX8_records_71 : decode cX8_records 71 = .ok (.sipush 257, 3) := by decide +kernel
theorem dX8_records_74 : decode cX8_records 74 = .ok (.aload_n 0, 1) := by decide +kernel
theorem dX8_records_75 : decode cX8_records 75 = .ok (.getfield 41, 3) := by decide +kernel
theorem dX8_records_78 : decode cX8_records 78 = .ok (.imul, 1) := by decide +kernel
theorem dX8_records_79 : decode cX8_records 79 = .ok (.invokevirtual 45, 3) := by decide +kernel
theorem dX8_records_82 : decode cX8_records 82 = .ok (.return_, 1) := by decide +kernel
theorem dX8_shapeOf_0 : decode cX8_shapeOf 0 = .ok (.aload_n 0, 1) := by decide +kernel
theorem dX8_shapeOf_1 : decode cX8_shapeOf 1 = .ok (.getfield 7, 3) := by decide +kernel
theorem dX8_shapeOf_4 : decode cX8_shapeOf 4 = .ok (.iconst 1, 1) := by decide +kernel
theorem dX8_shapeOf_5 : decode cX8_shapeOf 5 = .ok (.iconst 5, 1) := by decide +kernel
theorem dX8_shapeOf_6 : decode cX8_shapeOf 6 = .ok (.iload_n 1, 1) := by decide +kernel
theorem dX8_shapeOf_7 : decode cX8_shapeOf 7 = .ok (.imul, 1) := by decide +kernel
theorem dX8_shapeOf_8 : decode cX8_shapeOf 8 = .ok (.iadd, 1) := by decide +kernel
theorem dX8_shapeOf_9 : decode cX8_shapeOf 9 = .ok (.iload_n 2, 1) := by decide +kernel
theorem dX8_shapeOf_10 : decode cX8_shapeOf 10 = .ok (.iadd, 1) := by decide +kernel
theorem dX8_shapeOf_11 : decode cX8_shapeOf 11 = .ok (.iaload, 1) := by decide +kernel
theorem dX8_shapeOf_12 : decode cX8_shapeOf 12 = .ok (.ireturn, 1) := by decide +kernel
theorem dX8_size_0 : decode cX8_size 0 = .ok (.iload_n 0, 1) := by decide +kernel
theorem dX8_size_1 : decode cX8_size 1 = .ok (.ifCond .ge 8, 3) := by decide +kernel
theorem dX8_size_4 : decode cX8_size 4 = .ok (.iload_n 0, 1) := by decide +kernel
theorem dX8_size_5 : decode cX8_size 5 = .ok (.ineg, 1) := by decide +kernel
theorem dX8_size_6 : decode cX8_size 6 = .ok (.goto 4, 3) := by decide +kernel
theorem dX8_size_9 : decode cX8_size 9 = .ok (.iload_n 0, 1) := by decide +kernel
theorem dX8_size_10 : decode cX8_size 10 = .ok (.ireturn, 1) := by decide +kernel
theorem dX8_belongs_0 : decode cX8_belongs 0 = .ok (.aload_n 0, 1) := by decide +kernel
theorem dX8_belongs_1 : decode cX8_belongs 1 = .ok (.iload_n 1, 1) := by decide +kernel
theorem dX8_belongs_2 : decode cX8_belongs 2 = .ok (.iconst 1, 1) := by decide +kernel
theorem dX8_belongs_3 : decode cX8_belongs 3 = .ok (.invokevirtual 49, 3) := by decide +kernel
theorem dX8_belongs_6 : decode cX8_belongs 6 = .ok (.istore 4, 2) := by decide +kernel
theorem dX8_belongs_8 : decode cX8_belongs 8 = .ok (.aload_n 0, 1) := by decide +kernel
theorem dX8_belongs_9 : decode cX8_belongs 9 = .ok (.iload_n 1, 1) := by decide +kernel
theorem dX8_belongs_10 : decode cX8_belongs 10 = .ok (.iconst 2, 1) := by decide +kernel
theorem dX8_belongs_11 : decode cX8_belongs 11 = .ok (.invokevirtual 49, 3) := by decide +kernel
theorem dX8_belongs_14 : decode cX8_belongs 14 = .ok (.istore 5, 2) := by decide +kernel
theorem dX8_belongs_16 : decode cX8_belongs 16 = .ok (.aload_n 0, 1) := by decide +kernel
theorem dX8_belongs_17 : decode cX8_belongs 17 = .ok (.iload_n 1, 1) := by decide +kernel
theorem dX8_belongs_18 : decode cX8_belongs 18 = .ok (.iconst 3, 1) := by decide +kernel
theorem dX8_belongs_19 : decode cX8_belongs 19 = .ok (.invokevirtual 49, 3) := by decide +kernel
theorem dX8_belongs_22 : decode cX8_belongs 22 = .ok (.istore 6, 2) := by decide +kernel
theorem dX8_belongs_24 : decode cX8_belongs 24 = .ok (.aload_n 0, 1) := by decide +kernel
theorem dX8_belongs_25 : decode cX8_belongs 25 = .ok (.iload_n 1, 1) := by decide +kernel
theorem dX8_belongs_26 : decode cX8_belongs 26 = .ok (.iconst 4, 1) := by decide +kernel
theorem dX8_belongs_27 : decode cX8_belongs 27 = .ok (.invokevirtual 49, 3) := by decide +kernel
theorem dX8_belongs_30 : decode cX8_belongs 30 = .ok (.istore 7, 2) := by decide +kernel
theorem dX8_belongs_32 : decode cX8_belongs 32 = .ok (.iload_n 2, 1) := by decide +kernel
theorem dX8_belongs_33 : decode cX8_belongs 33 = .ok (.iload 4, 2) := by decide +kernel
theorem dX8_belongs_35 : decode cX8_belongs 35 = .ok (.iload 6, 2) := by decide +kernel
theorem dX8_belongs_37 : decode cX8_belongs 37 = .ok (.invokestatic 53, 3) := by decide +kernel
theorem dX8_belongs_40 : decode cX8_belongs 40 = .ok (.ifCond .eq 14, 3) := by decide +kernel
theorem dX8_belongs_43 : decode cX8_belongs 43 = .ok (.iload_n 3, 1) := by decide +kernel
theorem dX8_belongs_44 : decode cX8_belongs 44 = .ok (.iload 5, 2) := by decide +kernel
theorem dX8_belongs_46 : decode cX8_belongs 46 = .ok (.iload 7, 2) := by decide +kernel
theorem dX8_belongs_48 : decode cX8_belongs 48 = .ok (.invokestatic 53, 3) := by decide +kernel
theorem dX8_belongs_51 : decode cX8_belongs 51 = .ok (.ifCond .ne 5, 3) := by decide +kernel
theorem dX8_belongs_54 : decode cX8_belongs 54 = .ok (.iconst 0, 1) := by decide +kernel
theorem dX8_belongs_55 : decode cX8_belongs 55 = .ok (.ireturn, 1) := by decide +kernel
theorem dX8_belongs_56 : decode cX8_belongs 56 = .ok (.iconst 2, 1) := by decide +kernel
theorem dX8_belongs_57 : decode cX8_belongs 57 = .ok (.iload_n 2, 1) := by decide +kernel
theorem dX8_belongs_58 : decode cX8_belongs 58 = .ok (.imul, 1) := by decide +kernel
theorem dX8_belongs_59 : decode cX8_belongs 59 = .ok (.iload 4, 2) := by decide +kernel
theorem dX8_belongs_61 : decode cX8_belongs 61 = .ok (.isub, 1) := by decide +kernel
theorem dX8_belongs_62 : decode cX8_belongs 62 = .ok (.iload 6, 2) := by decide +kernel
theorem dX8_belongs_64 : decode cX8_belongs 64 = .ok (.isub, 1) := by decide +kernel
theorem dX8_belongs_65 : decode cX8_belongs 65 = .ok (.invokestatic 57, 3) := by decide +kernel
theorem dX8_belongs_68 : decode cX8_belongs 68 = .ok (.istore 8, 2) := by decide +kernel
theorem dX8_belongs_70 : decode cX8_belongs 70 = .ok (.iconst 2, 1) := by decide +kernel
theorem dX8_belongs_71 : decode cX8_belongs 71 = .ok (.iload_n 3, 1) := by decide +kernel
theorem dX8_belongs_72 : decode cX8_belongs 72 = .ok (.imul, 1) := by decide +kernel
theorem dX8_belongs_73 : decode cX8_belongs 73 = .ok (.iload 5, 2) := by decide +kernel
theorem dX8_belongs_75 : decode cX8_belongs 75 = .ok (.isub, 1) := by decide +kernel
theorem dX8_belongs_76 : decode cX8_belongs 76 = .ok (.iload 7, 2) := by decide +kernel
theorem dX8_belongs_78 : decode cX8_belongs 78 = .ok (.isub, 1) := by decide +kernel
theorem dX8_belongs_79 : decode cX8_belongs 79 = .ok (.invokestatic 57, 3) := by decide +kernel
theorem dX8_belongs_82 : decode cX8_belongs 82 = .ok (.istore 9, 2) := by decide +kernel
theorem dX8_belongs_84 : decode cX8_belongs 84 = .ok (.iload 6, 2) := by decide +kernel
theorem dX8_belongs_86 : decode cX8_belongs 86 = .ok (.iload 4, 2) := by decide +kernel
theorem dX8_belongs_88 : decode cX8_belongs 88 = .ok (.isub, 1) := by decide +kernel
theorem dX8_belongs_89 : decode cX8_belongs 89 = .ok (.iconst 1, 1) := by decide +kernel
theorem dX8_belongs_90 : decode cX8_belongs 90 = .ok (.iadd, 1) := by decide +kernel
theorem dX8_belongs_91 : decode cX8_belongs 91 = .ok (.istore 10, 2) := by decide +kernel
theorem dX8_belongs_93 : decode cX8_belongs 93 = .ok (.iload 7, 2) := by decide +kernel
theorem dX8_belongs_95 : decode cX8_belongs 95 = .ok (.iload 5, 2) := by decide +kernel
theorem dX8_belongs_97 : decode cX8_belongs 97 = .ok (.isub, 1) := by decide +kernel
theorem dX8_belongs_98 : decode cX8_belongs 98 = .ok (.iconst 1, 1) := by decide +kernel
theorem dX8_belongs_99 : decode cX8_belongs 99 = .ok (.iadd, 1) := by decide +kernel
theorem dX8_belongs_100 : decode cX8_belongs 100 = .ok (.istore 11, 2) := by decide +kernel
theorem dX8_belongs_102 : decode cX8_belongs 102 = .ok (.aload_n 0, 1) := by decide +kernel
theorem dX8_belongs_103 : decode cX8_belongs 103 = .ok (.iload_n 1, 1) := by decide +kernel
theorem dX8_belongs_104 : decode cX8_belongs 104 = .ok (.iconst 0, 1) := by decide +kernel
theorem dX8_belongs_105 : decode cX8_belongs 105 = .ok (.invokevirtual 49, 3) := by decide +kernel
theorem dX8_belongs_108 : decode cX8_belongs 108 = .ok (.istore 12, 2) := by decide +kernel
theorem dX8_belongs_110 : decode cX8_belongs 110 = .ok (.iload 12, 2) := by decide +kernel
theorem dX8_belongs_112 : decode cX8_belongs 112 = .ok (.ifCond .eq 94, 3) := by decide +kernel
theorem dX8_belongs_115 : decode cX8_belongs 115 = .ok (.iload 12, 2) := by decide +kernel
theorem dX8_belongs_117 : decode cX8_belongs 117 = .ok (.iconst 1, 1) := by decide +kernel
theorem dX8_belongs_118 : decode cX8_belongs 118 = .ok (.if_icmp .ne 22, 3) := by decide +kernel
theorem dX8_belongs_121 : decode cX8_belongs 121 = .ok (.iload 8, 2) := by decide +kernel
theorem dX8_belongs_123 : decode cX8_belongs 123 = .ok (.iload 11, 2) := by decide +kernel
theorem dX8_belongs_125 : decode cX8_belongs 125 = .ok (.imul, 1) := by decide +kernel
theorem dX8_belongs_126 : decode cX8_belongs 126 = .ok (.iload 9, 2) := by decide +kernel
theorem dX8_belongs_128 : decode cX8_belongs 128 = .ok (.iload 10, 2) := by decide +kernel
theorem dX8_belongs_130 : decode cX8_belongs 130 = .ok (.imul, 1) := by decide +kernel
theorem dX8_belongs_131 : decode cX8_belongs 131 = .ok (.iadd, 1) := by decide +kernel
theorem dX8_belongs_132 : decode cX8_belongs 132 = .ok (.iload 10, 2) := by decide +kernel
theorem dX8_belongs_134 : decode cX8_belongs 134 = .ok (.iload 11, 2) := by decide +kernel
theorem dX8_belongs_136 : decode cX8_belongs 136 = .ok (.imul, 1) := by decide +kernel
theorem dX8_belongs_137 : decode cX8_belongs 137 = .ok (.if_icmp .le 69, 3) := by decide +kernel
theorem dX8_belongs_140 : decode cX8_belongs 140 = .ok (.iload 12, 2) := by decide +kernel
theorem dX8_belongs_142 : decode cX8_belongs 142 = .ok (.iconst 2, 1) := by decide +kernel
theorem dX8_belongs_143 : decode cX8_belongs 143 = .ok (.if_icmp .ne 40, 3) := by decide +kernel
theorem dX8_belongs_146 : decode cX8_belongs 146 = .ok (.iload 8, 2) := by decide +kernel
theorem dX8_belongs_148 : decode cX8_belongs 148 = .ok (.iload 8, 2) := by decide +kernel
theorem dX8_belongs_150 : decode cX8_belongs 150 = .ok (.imul, 1) := by decide +kernel
theorem dX8_belongs_151 : decode cX8_belongs 151 = .ok (.iload 11, 2) := by decide +kernel
theorem dX8_belongs_153 : decode cX8_belongs 153 = .ok (.imul, 1) := by decide +kernel
theorem dX8_belongs_154 : decode cX8_belongs 154 = .ok (.iload 11, 2) := by decide +kernel
theorem dX8_belongs_156 : decode cX8_belongs 156 = .ok (.imul, 1) := by decide +kernel
theorem dX8_belongs_157 : decode cX8_belongs 157 = .ok (.iload 9, 2) := by decide +kernel
theorem dX8_belongs_159 : decode cX8_belongs 159 = .ok (.iload 9, 2) := by decide +kernel
theorem dX8_belongs_161 : decode cX8_belongs 161 = .ok (.imul, 1) := by decide +kernel
theorem dX8_belongs_162 : decode cX8_belongs 162 = .ok (.iload 10, 2) := by decide +kernel
theorem dX8_belongs_164 : decode cX8_belongs 164 = .ok (.imul, 1) := by decide +kernel
theorem dX8_belongs_165 : decode cX8_belongs 165 = .ok (.iload 10, 2) := by decide +kernel
theorem dX8_belongs_167 : decode cX8_belongs 167 = .ok (.imul, 1) := by decide +kernel
theorem dX8_belongs_168 : decode cX8_belongs 168 = .ok (.iadd, 1) := by decide +kernel
theorem dX8_belongs_169 : decode cX8_belongs 169 = .ok (.iload 10, 2) := by decide +kernel
theorem dX8_belongs_171 : decode cX8_belongs 171 = .ok (.iload 10, 2) := by decide +kernel
theorem dX8_belongs_173 : decode cX8_belongs 173 = .ok (.imul, 1) := by decide +kernel
theorem dX8_belongs_174 : decode cX8_belongs 174 = .ok (.iload 11, 2) := by decide +kernel
theorem dX8_belongs_176 : decode cX8_belongs 176 = .ok (.imul, 1) := by decide +kernel
theorem dX8_belongs_177 : decode cX8_belongs 177 = .ok (.iload 11, 2) := by decide +kernel
theorem dX8_belongs_179 : decode cX8_belongs 179 = .ok (.imul, 1) := by decide +kernel
theorem dX8_belongs_180 : decode cX8_belongs 180 = .ok (.if_icmp .le 26, 3) := by decide +kernel
theorem dX8_belongs_183 : decode cX8_belongs 183 = .ok (.iload 12, 2) := by decide +kernel
theorem dX8_belongs_185 : decode cX8_belongs 185 = .ok (.iconst 3, 1) := by decide +kernel
theorem dX8_belongs_186 : decode cX8_belongs 186 = .ok (.if_icmp .ne 24, 3) := by decide +kernel
theorem dX8_belongs_189 : decode cX8_belongs 189 = .ok (.iload 8, 2) := by decide +kernel
theorem dX8_belongs_191 : decode cX8_belongs 191 = .ok (.iload 11, 2) := by decide +kernel
theorem dX8_belongs_193 : decode cX8_belongs 193 = .ok (.imul, 1) := by decide +kernel
theorem dX8_belongs_194 : decode cX8_belongs 194 = .ok (.iload 10, 2) := by decide +kernel
theorem dX8_belongs_196 : decode cX8_belongs 196 = .ok (.iload_n 3, 1) := by decide +kernel
theorem dX8_belongs_197 : decode cX8_belongs 197 = .ok (.iload 5, 2) := by decide +kernel
theorem dX8_belongs_199 : decode cX8_belongs 199 = .ok (.isub, 1) := by decide +kernel
theorem dX8_belongs_200 : decode cX8_belongs 200 = .ok (.iconst 1, 1) := by decide +kernel
theorem dX8_belongs_201 : decode cX8_belongs 201 = .ok (.iadd, 1) := by decide +kernel
theorem dX8_belongs_202 : decode cX8_belongs 202 = .ok (.imul, 1) := by decide +kernel
theorem dX8_belongs_203 : decode cX8_belongs 203 = .ok (.if_icmp .gt 7, 3) := by decide +kernel
theorem dX8_belongs_206 : decode cX8_belongs 206 = .ok (.iconst 1, 1) := by decide +kernel
theorem dX8_belongs_207 : decode cX8_belongs 207 = .ok (.goto 4, 3) := by decide +kernel
theorem dX8_belongs_210 : decode cX8_belongs 210 = .ok (.iconst 0, 1) := by decide +kernel
theorem dX8_belongs_211 : decode cX8_belongs 211 = .ok (.ireturn, 1) := by decide +kernel
theorem dX8_free_0 : decode cX8_free 0 = .ok (.iconst 0, 1) := by decide +kernel
theorem dX8_free_1 : decode cX8_free 1 = .ok (.istore_n 3, 1) := by decide +kernel
theorem dX8_free_2 : decode cX8_free 2 = .ok (.iconst 0, 1) := by decide +kernel
theorem dX8_free_3 : decode cX8_free 3 = .ok (.istore 4, 2) := by decide +kernel
theorem dX8_free_5 : decode cX8_free 5 = .ok (.iload 4, 2) := by decide +kernel
theorem dX8_free_7 : decode cX8_free 7 = .ok (.aload_n 0, 1) := by decide +kernel
theorem dX8_free_8 : decode cX8_free 8 = .ok (.getfield 7, 3) := by decide +kernel
theorem dX8_free_11 : decode cX8_free 11 = .ok (.iconst 0, 1) := by decide +kernel
theorem dX8_free_12 : decode cX8_free 12 = .ok (.iaload, 1) := by decide +kernel
theorem dX8_free_13 : decode cX8_free 13 = .ok (.if_icmp .ge 28, 3) := by decide +kernel
theorem dX8_free_16 : decode cX8_free 16 = .ok (.iload_n 3, 1) := by decide +kernel
theorem dX8_free_17 : decode cX8_free 17 = .ok (.aload_n 0, 1) := by decide +kernel
theorem dX8_free_18 : decode cX8_free 18 = .ok (.iload 4, 2) := by decide +kernel
theorem dX8_free_20 : decode cX8_free 20 = .ok (.iload_n 1, 1) := by decide +kernel
theorem dX8_free_21 : decode cX8_free 21 = .ok (.iload_n 2, 1) := by decide +kernel
theorem dX8_free_22 : decode cX8_free 22 = .ok (.invokevirtual 61, 3) := by decide +kernel
theorem dX8_free_25 : decode cX8_free 25 = .ok (.ifCond .eq 7, 3) := by decide +kernel
theorem dX8_free_28 : decode cX8_free 28 = .ok (.iconst 1, 1) := by decide +kernel
theorem dX8_free_29 : decode cX8_free 29 = .ok (.goto 4, 3) := by decide +kernel
theorem dX8_free_32 : decode cX8_free 32 = .ok (.iconst 0, 1) := by decide +kernel
theorem dX8_free_33 : decode cX8_free 33 = .ok (.iadd, 1) := by decide +kernel
theorem dX8_free_34 : decode cX8_free 34 = .ok (.istore_n 3, 1) := by decide +kernel
theorem dX8_free_35 : decode cX8_free 35 = .ok (.iinc 4 1, 3) := by decide +kernel
theorem dX8_free_38 : decode cX8_free 38 = .ok (.goto (-33), 3) := by decide +kernel
theorem dX8_free_41 : decode cX8_free 41 = .ok (.iload_n 3, 1) := by decide +kernel
theorem dX8_free_42 : decode cX8_free 42 = .ok (.iconst 2, 1) := by decide +kernel
theorem dX8_free_43 : decode cX8_free 43 = .ok (.irem, 1) := by decide +kernel
theorem dX8_free_44 : decode cX8_free 44 = .ok (.iconst 1, 1) := by decide +kernel
theorem dX8_free_45 : decode cX8_free 45 = .ok (.if_icmp .ne 7, 3) := by decide +kernel
theorem dX8_free_48 : decode cX8_free 48 = .ok (.iconst 1, 1) := by decide +kernel
theorem dX8_free_49 : decode cX8_free 49 = .ok (.goto 4, 3) := by decide +kernel
theorem dX8_free_52 : decode cX8_free 52 = .ok (.iconst 0, 1) := by decide +kernel
theorem dX8_free_53 : decode cX8_free 53 = .ok (.ireturn, 1) := by decide +kernel
theorem dX8_freeCells_0 : decode cX8_freeCells 0 = .ok (.iconst 0, 1) := by decide +kernel
theorem dX8_freeCells_1 : decode cX8_freeCells 1 = .ok (.istore_n 1, 1) := by decide +kernel
theorem dX8_freeCells_2 : decode cX8_freeCells 2 = .ok (.iconst 0, 1) := by decide +kernel
theorem dX8_freeCells_3 : decode cX8_freeCells 3 = .ok (.istore_n 2, 1) := by decide +kernel
theorem dX8_freeCells_4 : decode cX8_freeCells 4 = .ok (.iload_n 2, 1) := by decide +kernel
theorem dX8_freeCells_5 : decode cX8_freeCells 5 = .ok (.bipush 48, 2) := by decide +kernel
theorem dX8_freeCells_7 : decode cX8_freeCells 7 = .ok (.if_icmp .ge 40, 3) := by decide +kernel
theorem dX8_freeCells_10 : decode cX8_freeCells 10 = .ok (.iconst 0, 1) := by decide +kernel
theorem dX8_freeCells_11 : decode cX8_freeCells 11 = .ok (.istore_n 3, 1) := by decide +kernel
theorem dX8_freeCells_12 : decode cX8_freeCells 12 = .ok (.iload_n 3, 1) := by decide +kernel
theorem dX8_freeCells_13 : decode cX8_freeCells 13 = .ok (.bipush 36, 2) := by decide +kernel
theorem dX8_freeCells_15 : decode cX8_freeCells 15 = .ok (.if_icmp .ge 26, 3) := by decide +kernel
theorem dX8_freeCells_18 : decode cX8_freeCells 18 = .ok (.iload_n 1, 1) := by decide +kernel
theorem dX8_freeCells_19 : decode cX8_freeCells 19 = .ok (.aload_n 0, 1) := by decide +kernel
theorem dX8_freeCells_20 : decode cX8_freeCells 20 = .ok (.iload_n 2, 1) := by decide +kernel
theorem dX8_freeCells_21 : decode cX8_freeCells 21 = .ok (.iload_n 3, 1) := by decide +kernel
theorem dX8_freeCells_22 : decode cX8_freeCells 22 = .ok (.invokevirtual 64, 3) := by decide +kernel
theorem dX8_freeCells_25 : decode cX8_freeCells 25 = .ok (.ifCond .eq 7, 3) := by decide +kernel
theorem dX8_freeCells_28 : decode cX8_freeCells 28 = .ok (.iconst 1, 1) := by decide +kernel
theorem dX8_freeCells_29 : decode cX8_freeCells 29 = .ok (.goto 4, 3) := by decide +kernel
theorem dX8_freeCells_32 : decode cX8_freeCells 32 = .ok (.iconst 0, 1) := by decide +kernel
theorem dX8_freeCells_33 : decode cX8_freeCells 33 = .ok (.iadd, 1) := by decide +kernel
theorem dX8_freeCells_34 : decode cX8_freeCells 34 = .ok (.istore_n 1, 1) := by decide +kernel
theorem dX8_freeCells_35 : decode cX8_freeCells 35 = .ok (.iinc 3 1, 3) := by decide +kernel
theorem dX8_freeCells_38 : decode cX8_freeCells 38 = .ok (.goto (-26), 3) := by decide +kernel
theorem dX8_freeCells_41 : decode cX8_freeCells 41 = .ok (.iinc 2 1, 3) := by decide +kernel
theorem dX8_freeCells_44 : decode cX8_freeCells 44 = .ok (.goto (-40), 3) := by decide +kernel
theorem dX8_freeCells_47 : decode cX8_freeCells 47 = .ok (.iload_n 1, 1) := by decide +kernel
theorem dX8_freeCells_48 : decode cX8_freeCells 48 = .ok (.ireturn, 1) := by decide +kernel
theorem dX8_isShape_0 : decode cX8_isShape 0 = .ok (.iload_n 1, 1) := by decide +kernel
theorem dX8_isShape_1 : decode cX8_isShape 1 = .ok (.iconst 0, 1) := by decide +kernel
theorem dX8_isShape_2 : decode cX8_isShape 2 = .ok (.aload_n 0, 1) := by decide +kernel
theorem dX8_isShape_3 : decode cX8_isShape 3 = .ok (.getfield 7, 3) := by decide +kernel
theorem dX8_isShape_6 : decode cX8_isShape 6 = .ok (.iconst 0, 1) := by decide +kernel
theorem dX8_isShape_7 : decode cX8_isShape 7 = .ok (.iaload, 1) := by decide +kernel
theorem dX8_isShape_8 : decode cX8_isShape 8 = .ok (.iconst 1, 1) := by decide +kernel
theorem dX8_isShape_9 : decode cX8_isShape 9 = .ok (.isub, 1) := by decide +kernel
theorem dX8_isShape_10 : decode cX8_isShape 10 = .ok (.invokestatic 53, 3) := by decide +kernel
theorem dX8_isShape_13 : decode cX8_isShape 13 = .ok (.ireturn, 1) := by decide +kernel
theorem dX8_addShape_0 : decode cX8_addShape 0 = .ok (.iload_n 1, 1) := by decide +kernel
theorem dX8_addShape_1 : decode cX8_addShape 1 = .ok (.iconst 0, 1) := by decide +kernel
theorem dX8_addShape_2 : decode cX8_addShape 2 = .ok (.iconst 3, 1) := by decide +kernel
theorem dX8_addShape_3 : decode cX8_addShape 3 = .ok (.invokestatic 53, 3) := by decide +kernel
theorem dX8_addShape_6 : decode cX8_addShape 6 = .ok (.ifCond .eq 45, 3) := by decide +kernel
theorem dX8_addShape_9 : decode cX8_addShape 9 = .ok (.iload_n 2, 1) := by decide +kernel
theorem dX8_addShape_10 : decode cX8_addShape 10 = .ok (.iconst 0, 1) := by decide +kernel
theorem dX8_addShape_11 : decode cX8_addShape 11 = .ok (.bipush 47, 2) := by decide +kernel
theorem dX8_addShape_13 : decode cX8_addShape 13 = .ok (.invokestatic 53, 3) := by decide +kernel
theorem dX8_addShape_16 : decode cX8_addShape 16 = .ok (.ifCond .eq 35, 3) := by decide +kernel
theorem dX8_addShape_19 : decode cX8_addShape 19 = .ok (.iload_n 3, 1) := by decide +kernel
theorem dX8_addShape_20 : decode cX8_addShape 20 = .ok (.iconst 0, 1) := by decide +kernel
theorem dX8_addShape_21 : decode cX8_addShape 21 = .ok (.bipush 35, 2) := by decide +kernel
theorem dX8_addShape_23 : decode cX8_addShape 23 = .ok (.invokestatic 53, 3) := by decide +kernel
theorem dX8_addShape_26 : decode cX8_addShape 26 = .ok (.ifCond .eq 25, 3) := by decide +kernel
theorem dX8_addShape_29 : decode cX8_addShape 29 = .ok (.iload 4, 2) := by decide +kernel
theorem dX8_addShape_31 : decode cX8_addShape 31 = .ok (.iload_n 2, 1) := by decide +kernel
theorem dX8_addShape_32 : decode cX8_addShape 32 = .ok (.bipush 47, 2) := by decide +kernel
theorem dX8_addShape_34 : decode cX8_addShape 34 = .ok (.invokestatic 53, 3) := by decide +kernel
theorem dX8_addShape_37 : decode cX8_addShape 37 = .ok (.ifCond .eq 14, 3) := by decide +kernel
theorem dX8_addShape_40 : decode cX8_addShape 40 = .ok (.iload 5, 2) := by decide +kernel
theorem dX8_addShape_42 : decode cX8_addShape 42 = .ok (.iload_n 3, 1) := by decide +kernel
theorem dX8_addShape_43 : decode cX8_addShape 43 = .ok (.bipush 35, 2) := by decide +kernel
theorem dX8_addShape_45 : decode cX8_addShape 45 = .ok (.invokestatic 53, 3) := by decide +kernel
theorem dX8_addShape_48 : decode cX8_addShape 48 = .ok (.ifCond .ne 6, 3) := by decide +kernel
theorem dX8_addShape_51 : decode cX8_addShape 51 = .ok (.bipush (-3), 2) := by decide +kernel
theorem dX8_addShape_53 : decode cX8_addShape 53 = .ok (.ireturn, 1) := by decide +kernel
theorem dX8_addShape_54 : decode cX8_addShape 54 = .ok (.aload_n 0, 1) := by decide +kernel
theorem dX8_addShape_55 : decode cX8_addShape 55 = .ok (.getfield 7, 3) := by decide +kernel
theorem dX8_addShape_58 : decode cX8_addShape 58 = .ok (.iconst 0, 1) := by decide +kernel
theorem dX8_addShape_59 : decode cX8_addShape 59 = .ok (.iaload, 1) := by decide +kernel
theorem dX8_addShape_60 : decode cX8_addShape 60 = .ok (.bipush 6, 2) := by decide +kernel
theorem dX8_addShape_62 : decode cX8_addShape 62 = .ok (.if_icmp .ne 6, 3) := by decide +kernel
theorem dX8_addShape_65 : decode cX8_addShape 65 = .ok (.bipush (-5), 2) := by decide +kernel
theorem dX8_addShape_67 : decode cX8_addShape 67 = .ok (.ireturn, 1) := by decide +kernel
theorem dX8_addShape_68 : decode cX8_addShape 68 = .ok (.aload_n 0, 1) := by decide +kernel
theorem dX8_addShape_69 : decode cX8_addShape 69 = .ok (.invokevirtual 68, 3) := by decide +kernel
theorem dX8_addShape_72 : decode cX8_addShape 72 = .ok (.iconst 1, 1) := by decide +kernel
theorem dX8_addShape_73 : decode cX8_addShape 73 = .ok (.iconst 5, 1) := by decide +kernel
theorem dX8_addShape_74 : decode cX8_addShape 74 = .ok (.aload_n 0, 1) := by decide +kernel
theorem dX8_addShape_75 : decode cX8_addShape 75 = .ok (.getfield 7, 3) := by decide +kernel
theorem dX8_addShape_78 : decode cX8_addShape 78 = .ok (.iconst 0, 1) := by decide +kernel
theorem dX8_addShape_79 : decode cX8_addShape 79 = .ok (.iaload, 1) := by decide +kernel
theorem dX8_addShape_80 : decode cX8_addShape 80 = .ok (.imul, 1) := by decide +kernel
theorem dX8_addShape_81 : decode cX8_addShape 81 = .ok (.iadd, 1) := by decide +kernel
theorem dX8_addShape_82 : decode cX8_addShape 82 = .ok (.istore 6, 2) := by decide +kernel
theorem dX8_addShape_84 : decode cX8_addShape 84 = .ok (.aload_n 0, 1) := by decide +kernel
theorem dX8_addShape_85 : decode cX8_addShape 85 = .ok (.getfield 7, 3) := by decide +kernel
theorem dX8_addShape_88 : decode cX8_addShape 88 = .ok (.iload 6, 2) := by decide +kernel
theorem dX8_addShape_90 : decode cX8_addShape 90 = .ok (.iload_n 1, 1) := by decide +kernel
theorem dX8_addShape_91 : decode cX8_addShape 91 = .ok (.iastore, 1) := by decide +kernel
theorem dX8_addShape_92 : decode cX8_addShape 92 = .ok (.aload_n 0, 1) := by decide +kernel
theorem dX8_addShape_93 : decode cX8_addShape 93 = .ok (.getfield 7, 3) := by decide +kernel
theorem dX8_addShape_96 : decode cX8_addShape 96 = .ok (.iload 6, 2) := by decide +kernel
theorem dX8_addShape_98 : decode cX8_addShape 98 = .ok (.iconst 1, 1) := by decide +kernel
theorem dX8_addShape_99 : decode cX8_addShape 99 = .ok (.iadd, 1) := by decide +kernel
theorem dX8_addShape_100 : decode cX8_addShape 100 = .ok (.iload_n 2, 1) := by decide +kernel
theorem dX8_addShape_101 : decode cX8_addShape 101 = .ok (.iastore, 1) := by decide +kernel
theorem dX8_addShape_102 : decode cX8_addShape 102 = .ok (.aload_n 0, 1) := by decide +kernel
theorem dX8_addShape_103 : decode cX8_addShape 103 = .ok (.getfield 7, 3) := by decide +kernel
theorem dX8_addShape_106 : decode cX8_addShape 106 = .ok (.iload 6, 2) := by decide +kernel
theorem dX8_addShape_108 : decode cX8_addShape 108 = .ok (.iconst 2, 1) := by decide +kernel
theorem dX8_addShape_109 : decode cX8_addShape 109 = .ok (.iadd, 1) := by decide +kernel
theorem dX8_addShape_110 : decode cX8_addShape 110 = .ok (.iload_n 3, 1) := by decide +kernel
theorem dX8_addShape_111 : decode cX8_addShape 111 = .ok (.iastore, 1) := by decide +kernel
theorem dX8_addShape_112 : decode cX8_addShape 112 = .ok (.aload_n 0, 1) := by decide +kernel
theorem dX8_addShape_113 : decode cX8_addShape 113 = .ok (.getfield 7, 3) := by decide +kernel
theorem dX8_addShape_116 : decode cX8_addShape 116 = .ok (.iload 6, 2) := by decide +kernel
theorem dX8_addShape_118 : decode cX8_addShape 118 = .ok (.iconst 3, 1) := by decide +kernel
theorem dX8_addShape_119 : decode cX8_addShape 119 = .ok (.iadd, 1) := by decide +kernel
theorem dX8_addShape_120 : decode cX8_addShape 120 = .ok (.iload 4, 2) := by decide +kernel
theorem dX8_addShape_122 : decode cX8_addShape 122 = .ok (.iastore, 1) := by decide +kernel
theorem dX8_addShape_123 : decode cX8_addShape 123 = .ok (.aload_n 0, 1) := by decide +kernel
theorem dX8_addShape_124 : decode cX8_addShape 124 = .ok (.getfield 7, 3) := by decide +kernel
theorem dX8_addShape_127 : decode cX8_addShape 127 = .ok (.iload 6, 2) := by decide +kernel
theorem dX8_addShape_129 : decode cX8_addShape 129 = .ok (.iconst 4, 1) := by decide +kernel
theorem dX8_addShape_130 : decode cX8_addShape 130 = .ok (.iadd, 1) := by decide +kernel
theorem dX8_addShape_131 : decode cX8_addShape 131 = .ok (.iload 5, 2) := by decide +kernel
theorem dX8_addShape_133 : decode cX8_addShape 133 = .ok (.iastore, 1) := by decide +kernel
theorem dX8_addShape_134 : decode cX8_addShape 134 = .ok (.aload_n 0, 1) := by decide +kernel
theorem dX8_addShape_135 : decode cX8_addShape 135 = .ok (.getfield 7, 3) := by decide +kernel
theorem dX8_addShape_138 : decode cX8_addShape 138 = .ok (.iconst 0, 1) := by decide +kernel
theorem dX8_addShape_139 : decode cX8_addShape 139 = .ok (.dup2, 1) := by decide +kernel
theorem dX8_addShape_140 : decode cX8_addShape 140 = .ok (.iaload, 1) := by decide +kernel
theorem dX8_addShape_141 : decode cX8_addShape 141 = .ok (.iconst 1, 1) := by decide +kernel
theorem dX8_addShape_142 : decode cX8_addShape 142 = .ok (.iadd, 1) := by decide +kernel
theorem dX8_addShape_143 : decode cX8_addShape 143 = .ok (.iastore, 1) := by decide +kernel
theorem dX8_addShape_144 : decode cX8_addShape 144 = .ok (.aload_n 0, 1) := by decide +kernel
theorem dX8_addShape_145 : decode cX8_addShape 145 = .ok (.getfield 7, 3) := by decide +kernel
theorem dX8_addShape_148 : decode cX8_addShape 148 = .ok (.iconst 0, 1) := by decide +kernel
theorem dX8_addShape_149 : decode cX8_addShape 149 = .ok (.iaload, 1) := by decide +kernel
theorem dX8_addShape_150 : decode cX8_addShape 150 = .ok (.iconst 1, 1) := by decide +kernel
theorem dX8_addShape_151 : decode cX8_addShape 151 = .ok (.isub, 1) := by decide +kernel
theorem dX8_addShape_152 : decode cX8_addShape 152 = .ok (.ireturn, 1) := by decide +kernel
theorem dX8_moveShape_0 : decode cX8_moveShape 0 = .ok (.aload_n 0, 1) := by decide +kernel
theorem dX8_moveShape_1 : decode cX8_moveShape 1 = .ok (.iload_n 1, 1) := by decide +kernel
theorem dX8_moveShape_2 : decode cX8_moveShape 2 = .ok (.invokevirtual 71, 3) := by decide +kernel
theorem dX8_moveShape_5 : decode cX8_moveShape 5 = .ok (.ifCond .ne 6, 3) := by decide +kernel
theorem dX8_moveShape_8 : decode cX8_moveShape 8 = .ok (.bipush (-2), 2) := by decide +kernel
theorem dX8_moveShape_10 : decode cX8_moveShape 10 = .ok (.ireturn, 1) := by decide +kernel
theorem dX8_moveShape_11 : decode cX8_moveShape 11 = .ok (.iload_n 2, 1) := by decide +kernel
theorem dX8_moveShape_12 : decode cX8_moveShape 12 = .ok (.bipush (-47), 2) := by decide +kernel
theorem dX8_moveShape_14 : decode cX8_moveShape 14 = .ok (.bipush 47, 2) := by decide +kernel
theorem dX8_moveShape_16 : decode cX8_moveShape 16 = .ok (.invokestatic 53, 3) := by decide +kernel
theorem dX8_moveShape_19 : decode cX8_moveShape 19 = .ok (.ifCond .eq 82, 3) := by decide +kernel
theorem dX8_moveShape_22 : decode cX8_moveShape 22 = .ok (.iload_n 3, 1) := by decide +kernel
theorem dX8_moveShape_23 : decode cX8_moveShape 23 = .ok (.bipush (-35), 2) := by decide +kernel
theorem dX8_moveShape_25 : decode cX8_moveShape 25 = .ok (.bipush 35, 2) := by decide +kernel
theorem dX8_moveShape_27 : decode cX8_moveShape 27 = .ok (.invokestatic 53, 3) := by decide +kernel
theorem dX8_moveShape_30 : decode cX8_moveShape 30 = .ok (.ifCond .eq 71, 3) := by decide +kernel
theorem dX8_moveShape_33 : decode cX8_moveShape 33 = .ok (.aload_n 0, 1) := by decide +kernel
theorem dX8_moveShape_34 : decode cX8_moveShape 34 = .ok (.iload_n 1, 1) := by decide +kernel
theorem dX8_moveShape_35 : decode cX8_moveShape 35 = .ok (.iconst 1, 1) := by decide +kernel
theorem dX8_moveShape_36 : decode cX8_moveShape 36 = .ok (.invokevirtual 49, 3) := by decide +kernel
theorem dX8_moveShape_39 : decode cX8_moveShape 39 = .ok (.iload_n 2, 1) := by decide +kernel
theorem dX8_moveShape_40 : decode cX8_moveShape 40 = .ok (.iadd, 1) := by decide +kernel
theorem dX8_moveShape_41 : decode cX8_moveShape 41 = .ok (.iconst 0, 1) := by decide +kernel
theorem dX8_moveShape_42 : decode cX8_moveShape 42 = .ok (.bipush 47, 2) := by decide +kernel
theorem dX8_moveShape_44 : decode cX8_moveShape 44 = .ok (.invokestatic 53, 3) := by decide +kernel
theorem dX8_moveShape_47 : decode cX8_moveShape 47 = .ok (.ifCond .eq 54, 3) := by decide +kernel
theorem dX8_moveShape_50 : decode cX8_moveShape 50 = .ok (.aload_n 0, 1) := by decide +kernel
theorem dX8_moveShape_51 : decode cX8_moveShape 51 = .ok (.iload_n 1, 1) := by decide +kernel
theorem dX8_moveShape_52 : decode cX8_moveShape 52 = .ok (.iconst 3, 1) := by decide +kernel
theorem dX8_moveShape_53 : decode cX8_moveShape 53 = .ok (.invokevirtual 49, 3) := by decide +kernel
theorem dX8_moveShape_56 : decode cX8_moveShape 56 = .ok (.iload_n 2, 1) := by decide +kernel
theorem dX8_moveShape_57 : decode cX8_moveShape 57 = .ok (.iadd, 1) := by decide +kernel
theorem dX8_moveShape_58 : decode cX8_moveShape 58 = .ok (.iconst 0, 1) := by decide +kernel
theorem dX8_moveShape_59 : decode cX8_moveShape 59 = .ok (.bipush 47, 2) := by decide +kernel
theorem dX8_moveShape_61 : decode cX8_moveShape 61 = .ok (.invokestatic 53, 3) := by decide +kernel
theorem dX8_moveShape_64 : decode cX8_moveShape 64 = .ok (.ifCond .eq 37, 3) := by decide +kernel
theorem dX8_moveShape_67 : decode cX8_moveShape 67 = .ok (.aload_n 0, 1) := by decide +kernel
theorem dX8_moveShape_68 : decode cX8_moveShape 68 = .ok (.iload_n 1, 1) := by decide +kernel
theorem dX8_moveShape_69 : decode cX8_moveShape 69 = .ok (.iconst 2, 1) := by decide +kernel
theorem dX8_moveShape_70 : decode cX8_moveShape 70 = .ok (.invokevirtual 49, 3) := by decide +kernel
theorem dX8_moveShape_73 : decode cX8_moveShape 73 = .ok (.iload_n 3, 1) := by decide +kernel
theorem dX8_moveShape_74 : decode cX8_moveShape 74 = .ok (.iadd, 1) := by decide +kernel
theorem dX8_moveShape_75 : decode cX8_moveShape 75 = .ok (.iconst 0, 1) := by decide +kernel
theorem dX8_moveShape_76 : decode cX8_moveShape 76 = .ok (.bipush 35, 2) := by decide +kernel
theorem dX8_moveShape_78 : decode cX8_moveShape 78 = .ok (.invokestatic 53, 3) := by decide +kernel
theorem dX8_moveShape_81 : decode cX8_moveShape 81 = .ok (.ifCond .eq 20, 3) := by decide +kernel
theorem dX8_moveShape_84 : decode cX8_moveShape 84 = .ok (.aload_n 0, 1) := by decide +kernel
theorem dX8_moveShape_85 : decode cX8_moveShape 85 = .ok (.iload_n 1, 1) := by decide +kernel
theorem dX8_moveShape_86 : decode cX8_moveShape 86 = .ok (.iconst 4, 1) := by decide +kernel
theorem dX8_moveShape_87 : decode cX8_moveShape 87 = .ok (.invokevirtual 49, 3) := by decide +kernel
theorem dX8_moveShape_90 : decode cX8_moveShape 90 = .ok (.iload_n 3, 1) := by decide +kernel
theorem dX8_moveShape_91 : decode cX8_moveShape 91 = .ok (.iadd, 1) := by decide +kernel
theorem dX8_moveShape_92 : decode cX8_moveShape 92 = .ok (.iconst 0, 1) := by decide +kernel
theorem dX8_moveShape_93 : decode cX8_moveShape 93 = .ok (.bipush 35, 2) := by decide +kernel
theorem dX8_moveShape_95 : decode cX8_moveShape 95 = .ok (.invokestatic 53, 3) := by decide +kernel
theorem dX8_moveShape_98 : decode cX8_moveShape 98 = .ok (.ifCond .ne 6, 3) := by decide +kernel
theorem dX8_moveShape_101 : decode cX8_moveShape 101 = .ok (.bipush (-3), 2) := by decide +kernel
theorem dX8_moveShape_103 : decode cX8_moveShape 103 = .ok (.ireturn, 1) := by decide +kernel
theorem dX8_moveShape_104 : decode cX8_moveShape 104 = .ok (.aload_n 0, 1) := by decide +kernel
theorem dX8_moveShape_105 : decode cX8_moveShape 105 = .ok (.invokevirtual 68, 3) := by decide +kernel
theorem dX8_moveShape_108 : decode cX8_moveShape 108 = .ok (.iconst 1, 1) := by decide +kernel
theorem dX8_moveShape_109 : decode cX8_moveShape 109 = .ok (.iconst 5, 1) := by decide +kernel
theorem dX8_moveShape_110 : decode cX8_moveShape 110 = .ok (.iload_n 1, 1) := by decide +kernel
theorem dX8_moveShape_111 : decode cX8_moveShape 111 = .ok (.imul, 1) := by decide +kernel
theorem dX8_moveShape_112 : decode cX8_moveShape 112 = .ok (.iadd, 1) := by decide +kernel
theorem dX8_moveShape_113 : decode cX8_moveShape 113 = .ok (.istore 4, 2) := by decide +kernel
theorem dX8_moveShape_115 : decode cX8_moveShape 115 = .ok (.aload_n 0, 1) := by decide +kernel
theorem dX8_moveShape_116 : decode cX8_moveShape 116 = .ok (.getfield 7, 3) := by decide +kernel
theorem dX8_moveShape_119 : decode cX8_moveShape 119 = .ok (.iload 4, 2) := by decide +kernel
theorem dX8_moveShape_121 : decode cX8_moveShape 121 = .ok (.iconst 1, 1) := by decide +kernel
theorem dX8_moveShape_122 : decode cX8_moveShape 122 = .ok (.iadd, 1) := by decide +kernel
theorem dX8_moveShape_123 : decode cX8_moveShape 123 = .ok (.dup2, 1) := by decide +kernel
theorem dX8_moveShape_124 : decode cX8_moveShape 124 = .ok (.iaload, 1) := by decide +kernel
theorem dX8_moveShape_125 : decode cX8_moveShape 125 = .ok (.iload_n 2, 1) := by decide +kernel
theorem dX8_moveShape_126 : decode cX8_moveShape 126 = .ok (.iadd, 1) := by decide +kernel
theorem dX8_moveShape_127 : decode cX8_moveShape 127 = .ok (.iastore, 1) := by decide +kernel
theorem dX8_moveShape_128 : decode cX8_moveShape 128 = .ok (.aload_n 0, 1) := by decide +kernel
theorem dX8_moveShape_129 : decode cX8_moveShape 129 = .ok (.getfield 7, 3) := by decide +kernel
theorem dX8_moveShape_132 : decode cX8_moveShape 132 = .ok (.iload 4, 2) := by decide +kernel
theorem dX8_moveShape_134 : decode cX8_moveShape 134 = .ok (.iconst 2, 1) := by decide +kernel
theorem dX8_moveShape_135 : decode cX8_moveShape 135 = .ok (.iadd, 1) := by decide +kernel
theorem dX8_moveShape_136 : decode cX8_moveShape 136 = .ok (.dup2, 1) := by decide +kernel
theorem dX8_moveShape_137 : decode cX8_moveShape 137 = .ok (.iaload, 1) := by decide +kernel
theorem dX8_moveShape_138 : decode cX8_moveShape 138 = .ok (.iload_n 3, 1) := by decide +kernel
theorem dX8_moveShape_139 : decode cX8_moveShape 139 = .ok (.iadd, 1) := by decide +kernel
theorem dX8_moveShape_140 : decode cX8_moveShape 140 = .ok (.iastore, 1) := by decide +kernel
theorem dX8_moveShape_141 : decode cX8_moveShape 141 = .ok (.aload_n 0, 1) := by decide +kernel
theorem dX8_moveShape_142 : decode cX8_moveShape 142 = .ok (.getfield 7, 3) := by decide +kernel
theorem dX8_moveShape_145 : decode cX8_moveShape 145 = .ok (.iload 4, 2) := by decide +kernel
theorem dX8_moveShape_147 : decode cX8_moveShape 147 = .ok (.iconst 3, 1) := by decide +kernel
theorem dX8_moveShape_148 : decode cX8_moveShape 148 = .ok (.iadd, 1) := by decide +kernel
theorem dX8_moveShape_149 : decode cX8_moveShape 149 = .ok (.dup2, 1) := by decide +kernel
theorem dX8_moveShape_150 : decode cX8_moveShape 150 = .ok (.iaload, 1) := by decide +kernel
theorem dX8_moveShape_151 : decode cX8_moveShape 151 = .ok (.iload_n 2, 1) := by decide +kernel
theorem dX8_moveShape_152 : decode cX8_moveShape 152 = .ok (.iadd, 1) := by decide +kernel
theorem dX8_moveShape_153 : decode cX8_moveShape 153 = .ok (.iastore, 1) := by decide +kernel
theorem dX8_moveShape_154 : decode cX8_moveShape 154 = .ok (.aload_n 0, 1) := by decide +kernel
theorem dX8_moveShape_155 : decode cX8_moveShape 155 = .ok (.getfield 7, 3) := by decide +kernel
theorem dX8_moveShape_158 : decode cX8_moveShape 158 = .ok (.iload 4, 2) := by decide +kernel
theorem dX8_moveShape_160 : decode cX8_moveShape 160 = .ok (.iconst 4, 1) := by decide +kernel
theorem dX8_moveShape_161 : decode cX8_moveShape 161 = .ok (.iadd, 1) := by decide +kernel
theorem dX8_moveShape_162 : decode cX8_moveShape 162 = .ok (.dup2, 1) := by decide +kernel
theorem dX8_moveShape_163 : decode cX8_moveShape 163 = .ok (.iaload, 1) := by decide +kernel
theorem dX8_moveShape_164 : decode cX8_moveShape 164 = .ok (.iload_n 3, 1) := by decide +kernel
theorem dX8_moveShape_165 : decode cX8_moveShape 165 = .ok (.iadd, 1) := by decide +kernel
theorem dX8_moveShape_166 : decode cX8_moveShape 166 = .ok (.iastore, 1) := by decide +kernel
theorem dX8_moveShape_167 : decode cX8_moveShape 167 = .ok (.aload_n 0, 1) := by decide +kernel
theorem dX8_moveShape_168 : decode cX8_moveShape 168 = .ok (.invokevirtual 75, 3) := by decide +kernel
theorem dX8_moveShape_171 : decode cX8_moveShape 171 = .ok (.ireturn, 1) := by decide +kernel
theorem dX8_removeShape_0 : decode cX8_removeShape 0 = .ok (.aload_n 0, 1) := by decide +kernel
theorem dX8_removeShape_1 : decode cX8_removeShape 1 = .ok (.iload_n 1, 1) := by decide +kernel
theorem dX8_removeShape_2 : decode cX8_removeShape 2 = .ok (.invokevirtual 71, 3) := by decide +kernel
theorem dX8_removeShape_5 : decode cX8_removeShape 5 = .ok (.ifCond .ne 6, 3) := by decide +kernel
theorem dX8_removeShape_8 : decode cX8_removeShape 8 = .ok (.bipush (-2), 2) := by decide +kernel
theorem dX8_removeShape_10 : decode cX8_removeShape 10 = .ok (.ireturn, 1) := by decide +kernel
theorem dX8_removeShape_11 : decode cX8_removeShape 11 = .ok (.aload_n 0, 1) := by decide +kernel
theorem dX8_removeShape_12 : decode cX8_removeShape 12 = .ok (.invokevirtual 68, 3) := by decide +kernel
theorem dX8_removeShape_15 : decode cX8_removeShape 15 = .ok (.aload_n 0, 1) := by decide +kernel
theorem dX8_removeShape_16 : decode cX8_removeShape 16 = .ok (.getfield 7, 3) := by decide +kernel
theorem dX8_removeShape_19 : decode cX8_removeShape 19 = .ok (.iconst 0, 1) := by decide +kernel
theorem dX8_removeShape_20 : decode cX8_removeShape 20 = .ok (.dup2, 1) := by decide +kernel
theorem dX8_removeShape_21 : decode cX8_removeShape 21 = .ok (.iaload, 1) := by decide +kernel
theorem dX8_removeShape_22 : decode cX8_removeShape 22 = .ok (.iconst 1, 1) := by decide +kernel
theorem dX8_removeShape_23 : decode cX8_removeShape 23 = .ok (.isub, 1) := by decide +kernel
theorem dX8_removeShape_24 : decode cX8_removeShape 24 = .ok (.iastore, 1) := by decide +kernel
theorem dX8_removeShape_25 : decode cX8_removeShape 25 = .ok (.iconst 1, 1) := by decide +kernel
theorem dX8_removeShape_26 : decode cX8_removeShape 26 = .ok (.iconst 5, 1) := by decide +kernel
theorem dX8_removeShape_27 : decode cX8_removeShape 27 = .ok (.iload_n 1, 1) := by decide +kernel
theorem dX8_removeShape_28 : decode cX8_removeShape 28 = .ok (.imul, 1) := by decide +kernel
theorem dX8_removeShape_29 : decode cX8_removeShape 29 = .ok (.iadd, 1) := by decide +kernel
theorem dX8_removeShape_30 : decode cX8_removeShape 30 = .ok (.istore_n 2, 1) := by decide +kernel
theorem dX8_removeShape_31 : decode cX8_removeShape 31 = .ok (.iload_n 2, 1) := by decide +kernel
theorem dX8_removeShape_32 : decode cX8_removeShape 32 = .ok (.iconst 1, 1) := by decide +kernel
theorem dX8_removeShape_33 : decode cX8_removeShape 33 = .ok (.iconst 5, 1) := by decide +kernel
theorem dX8_removeShape_34 : decode cX8_removeShape 34 = .ok (.aload_n 0, 1) := by decide +kernel
theorem dX8_removeShape_35 : decode cX8_removeShape 35 = .ok (.getfield 7, 3) := by decide +kernel
theorem dX8_removeShape_38 : decode cX8_removeShape 38 = .ok (.iconst 0, 1) := by decide +kernel
theorem dX8_removeShape_39 : decode cX8_removeShape 39 = .ok (.iaload, 1) := by decide +kernel
theorem dX8_removeShape_40 : decode cX8_removeShape 40 = .ok (.imul, 1) := by decide +kernel
theorem dX8_removeShape_41 : decode cX8_removeShape 41 = .ok (.iadd, 1) := by decide +kernel
theorem dX8_removeShape_42 : decode cX8_removeShape 42 = .ok (.if_icmp .ge 23, 3) := by decide +kernel
theorem dX8_removeShape_45 : decode cX8_removeShape 45 = .ok (.aload_n 0, 1) := by decide +kernel
theorem dX8_removeShape_46 : decode cX8_removeShape 46 = .ok (.getfield 7, 3) := by decide +kernel
theorem dX8_removeShape_49 : decode cX8_removeShape 49 = .ok (.iload_n 2, 1) := by decide +kernel
theorem dX8_removeShape_50 : decode cX8_removeShape 50 = .ok (.aload_n 0, 1) := by decide +kernel
theorem dX8_removeShape_51 : decode cX8_removeShape 51 = .ok (.getfield 7, 3) := by decide +kernel
theorem dX8_removeShape_54 : decode cX8_removeShape 54 = .ok (.iload_n 2, 1) := by decide +kernel
theorem dX8_removeShape_55 : decode cX8_removeShape 55 = .ok (.iconst 5, 1) := by decide +kernel
theorem dX8_removeShape_56 : decode cX8_removeShape 56 = .ok (.iadd, 1) := by decide +kernel
theorem dX8_removeShape_57 : decode cX8_removeShape 57 = .ok (.iaload, 1) := by decide +kernel
theorem dX8_removeShape_58 : decode cX8_removeShape 58 = .ok (.iastore, 1) := by decide +kernel
theorem dX8_removeShape_59 : decode cX8_removeShape 59 = .ok (.iinc 2 1, 3) := by decide +kernel
theorem dX8_removeShape_62 : decode cX8_removeShape 62 = .ok (.goto (-31), 3) := by decide +kernel
theorem dX8_removeShape_65 : decode cX8_removeShape 65 = .ok (.aload_n 0, 1) := by decide +kernel
theorem dX8_removeShape_66 : decode cX8_removeShape 66 = .ok (.getfield 7, 3) := by decide +kernel
theorem dX8_removeShape_69 : decode cX8_removeShape 69 = .ok (.iconst 0, 1) := by decide +kernel
theorem dX8_removeShape_70 : decode cX8_removeShape 70 = .ok (.iaload, 1) := by decide +kernel
theorem dX8_removeShape_71 : decode cX8_removeShape 71 = .ok (.ireturn, 1) := by decide +kernel
theorem dX8_isFree_0 : decode cX8_isFree 0 = .ok (.iload_n 1, 1) := by decide +kernel
theorem dX8_isFree_1 : decode cX8_isFree 1 = .ok (.iconst 0, 1) := by decide +kernel
theorem dX8_isFree_2 : decode cX8_isFree 2 = .ok (.bipush 47, 2) := by decide +kernel
theorem dX8_isFree_4 : decode cX8_isFree 4 = .ok (.invokestatic 53, 3) := by decide +kernel
theorem dX8_isFree_7 : decode cX8_isFree 7 = .ok (.ifCond .eq 13, 3) := by decide +kernel
theorem dX8_isFree_10 : decode cX8_isFree 10 = .ok (.iload_n 2, 1) := by decide +kernel
theorem dX8_isFree_11 : decode cX8_isFree 11 = .ok (.iconst 0, 1) := by decide +kernel
theorem dX8_isFree_12 : decode cX8_isFree 12 = .ok (.bipush 35, 2) := by decide +kernel
theorem dX8_isFree_14 : decode cX8_isFree 14 = .ok (.invokestatic 53, 3) := by decide +kernel
theorem dX8_isFree_17 : decode cX8_isFree 17 = .ok (.ifCond .ne 6, 3) := by decide +kernel
theorem dX8_isFree_20 : decode cX8_isFree 20 = .ok (.bipush (-3), 2) := by decide +kernel
theorem dX8_isFree_22 : decode cX8_isFree 22 = .ok (.ireturn, 1) := by decide +kernel
theorem dX8_isFree_23 : decode cX8_isFree 23 = .ok (.aload_n 0, 1) := by decide +kernel
theorem dX8_isFree_24 : decode cX8_isFree 24 = .ok (.iload_n 1, 1) := by decide +kernel
theorem dX8_isFree_25 : decode cX8_isFree 25 = .ok (.iload_n 2, 1) := by decide +kernel
theorem dX8_isFree_26 : decode cX8_isFree 26 = .ok (.invokevirtual 64, 3) := by decide +kernel
theorem dX8_isFree_29 : decode cX8_isFree 29 = .ok (.ifCond .eq 7, 3) := by decide +kernel
theorem dX8_isFree_32 : decode cX8_isFree 32 = .ok (.iconst 1, 1) := by decide +kernel
theorem dX8_isFree_33 : decode cX8_isFree 33 = .ok (.goto 4, 3) := by decide +kernel
theorem dX8_isFree_36 : decode cX8_isFree 36 = .ok (.iconst 0, 1) := by decide +kernel
theorem dX8_isFree_37 : decode cX8_isFree 37 = .ok (.ireturn, 1) := by decide +kernel
theorem dX8_findsSpans_0 : decode cX8_findsSpans 0 = .ok (.iconst 0, 1) := by decide +kernel
theorem dX8_findsSpans_1 : decode cX8_findsSpans 1 = .ok (.istore_n 1, 1) := by decide +kernel
theorem dX8_findsSpans_2 : decode cX8_findsSpans 2 = .ok (.iload_n 1, 1) := by decide +kernel
theorem dX8_findsSpans_3 : decode cX8_findsSpans 3 = .ok (.bipush 36, 2) := by decide +kernel
theorem dX8_findsSpans_5 : decode cX8_findsSpans 5 = .ok (.if_icmp .ge 55, 3) := by decide +kernel
theorem dX8_findsSpans_8 : decode cX8_findsSpans 8 = .ok (.aload_n 0, 1) := by decide +kernel
theorem dX8_findsSpans_9 : decode cX8_findsSpans 9 = .ok (.getfield 19, 3) := by decide +kernel
theorem dX8_findsSpans_12 : decode cX8_findsSpans 12 = .ok (.iload_n 1, 1) := by decide +kernel
theorem dX8_findsSpans_13 : decode cX8_findsSpans 13 = .ok (.lconst 0, 1) := by decide +kernel
theorem dX8_findsSpans_14 : decode cX8_findsSpans 14 = .ok (.lastore, 1) := by decide +kernel
theorem dX8_findsSpans_15 : decode cX8_findsSpans 15 = .ok (.iconst 0, 1) := by decide +kernel
theorem dX8_findsSpans_16 : decode cX8_findsSpans 16 = .ok (.istore_n 2, 1) := by decide +kernel
theorem dX8_findsSpans_17 : decode cX8_findsSpans 17 = .ok (.iload_n 2, 1) := by decide +kernel
theorem dX8_findsSpans_18 : decode cX8_findsSpans 18 = .ok (.bipush 48, 2) := by decide +kernel
theorem dX8_findsSpans_20 : decode cX8_findsSpans 20 = .ok (.if_icmp .ge 34, 3) := by decide +kernel
theorem dX8_findsSpans_23 : decode cX8_findsSpans 23 = .ok (.aload_n 0, 1) := by decide +kernel
theorem dX8_findsSpans_24 : decode cX8_findsSpans 24 = .ok (.getfield 19, 3) := by decide +kernel
theorem dX8_findsSpans_27 : decode cX8_findsSpans 27 = .ok (.iload_n 1, 1) := by decide +kernel
theorem dX8_findsSpans_28 : decode cX8_findsSpans 28 = .ok (.dup2, 1) := by decide +kernel
theorem dX8_findsSpans_29 : decode cX8_findsSpans 29 = .ok (.laload, 1) := by decide +kernel
theorem dX8_findsSpans_30 : decode cX8_findsSpans 30 = .ok (.aload_n 0, 1) := by decide +kernel
theorem dX8_findsSpans_31 : decode cX8_findsSpans 31 = .ok (.iload_n 2, 1) := by decide +kernel
theorem dX8_findsSpans_32 : decode cX8_findsSpans 32 = .ok (.iload_n 1, 1) := by decide +kernel
theorem dX8_findsSpans_33 : decode cX8_findsSpans 33 = .ok (.invokevirtual 64, 3) := by decide +kernel
theorem dX8_findsSpans_36 : decode cX8_findsSpans 36 = .ok (.ifCond .eq 9, 3) := by decide +kernel
theorem dX8_findsSpans_39 : decode cX8_findsSpans 39 = .ok (.lconst 1, 1) := by decide +kernel
theorem dX8_findsSpans_40 : decode cX8_findsSpans 40 = .ok (.iload_n 2, 1) := by decide +kernel
theorem dX8_findsSpans_41 : decode cX8_findsSpans 41 = .ok (.lshl, 1) := by decide +kernel
theorem dX8_findsSpans_42 : decode cX8_findsSpans 42 = .ok (.goto 4, 3) := by decide +kernel
theorem dX8_findsSpans_45 : decode cX8_findsSpans 45 = .ok (.lconst 0, 1) := by decide +kernel
theorem dX8_findsSpans_46 : decode cX8_findsSpans 46 = .ok (.lor, 1) := by decide +kernel
theorem dX8_findsSpans_47 : decode cX8_findsSpans 47 = .ok (.lastore, 1) := by decide +kernel
theorem dX8_findsSpans_48 : decode cX8_findsSpans 48 = .ok (.iinc 2 1, 3) := by decide +kernel
theorem dX8_findsSpans_51 : decode cX8_findsSpans 51 = .ok (.goto (-34), 3) := by decide +kernel
theorem dX8_findsSpans_54 : decode cX8_findsSpans 54 = .ok (.iinc 1 1, 3) := by decide +kernel
theorem dX8_findsSpans_57 : decode cX8_findsSpans 57 = .ok (.goto (-55), 3) := by decide +kernel
theorem dX8_findsSpans_60 : decode cX8_findsSpans 60 = .ok (.iconst 0, 1) := by decide +kernel
theorem dX8_findsSpans_61 : decode cX8_findsSpans 61 = .ok (.istore_n 1, 1) := by decide +kernel
theorem dX8_findsSpans_62 : decode cX8_findsSpans 62 = .ok (.iload_n 1, 1) := by decide +kernel
theorem dX8_findsSpans_63 : decode cX8_findsSpans 63 = .ok (.bipush 36, 2) := by decide +kernel
theorem dX8_findsSpans_65 : decode cX8_findsSpans 65 = .ok (.if_icmp .ge 56, 3) := by decide +kernel
theorem dX8_findsSpans_68 : decode cX8_findsSpans 68 = .ok (.aload_n 0, 1) := by decide +kernel
theorem dX8_findsSpans_69 : decode cX8_findsSpans 69 = .ok (.getfield 19, 3) := by decide +kernel
theorem dX8_findsSpans_72 : decode cX8_findsSpans 72 = .ok (.iload_n 1, 1) := by decide +kernel
theorem dX8_findsSpans_73 : decode cX8_findsSpans 73 = .ok (.laload, 1) := by decide +kernel
theorem dX8_findsSpans_74 : decode cX8_findsSpans 74 = .ok (.lstore_n 2, 1) := by decide +kernel
theorem dX8_findsSpans_75 : decode cX8_findsSpans 75 = .ok (.iload_n 1, 1) := by decide +kernel
theorem dX8_findsSpans_76 : decode cX8_findsSpans 76 = .ok (.istore 4, 2) := by decide +kernel
theorem dX8_findsSpans_78 : decode cX8_findsSpans 78 = .ok (.iload 4, 2) := by decide +kernel
theorem dX8_findsSpans_80 : decode cX8_findsSpans 80 = .ok (.bipush 36, 2) := by decide +kernel
theorem dX8_findsSpans_82 : decode cX8_findsSpans 82 = .ok (.if_icmp .ge 33, 3) := by decide +kernel
theorem dX8_findsSpans_85 : decode cX8_findsSpans 85 = .ok (.lload_n 2, 1) := by decide +kernel
theorem dX8_findsSpans_86 : decode cX8_findsSpans 86 = .ok (.aload_n 0, 1) := by decide +kernel
theorem dX8_findsSpans_87 : decode cX8_findsSpans 87 = .ok (.getfield 19, 3) := by decide +kernel
theorem dX8_findsSpans_90 : decode cX8_findsSpans 90 = .ok (.iload 4, 2) := by decide +kernel
theorem dX8_findsSpans_92 : decode cX8_findsSpans 92 = .ok (.laload, 1) := by decide +kernel
theorem dX8_findsSpans_93 : decode cX8_findsSpans 93 = .ok (.land, 1) := by decide +kernel
theorem dX8_findsSpans_94 : decode cX8_findsSpans 94 = .ok (.lstore_n 2, 1) := by decide +kernel
theorem dX8_findsSpans_95 : decode cX8_findsSpans 95 = .ok (.aload_n 0, 1) := by decide +kernel
theorem dX8_findsSpans_96 : decode cX8_findsSpans 96 = .ok (.bipush 36, 2) := by decide +kernel
theorem dX8_findsSpans_98 : decode cX8_findsSpans 98 = .ok (.iload 4, 2) := by decide +kernel
theorem dX8_findsSpans_100 : decode cX8_findsSpans 100 = .ok (.iload_n 1, 1) := by decide +kernel
theorem dX8_findsSpans_101 : decode cX8_findsSpans 101 = .ok (.isub, 1) := by decide +kernel
theorem dX8_findsSpans_102 : decode cX8_findsSpans 102 = .ok (.imul, 1) := by decide +kernel
theorem dX8_findsSpans_103 : decode cX8_findsSpans 103 = .ok (.iload_n 1, 1) := by decide +kernel
theorem dX8_findsSpans_104 : decode cX8_findsSpans 104 = .ok (.iadd, 1) := by decide +kernel
theorem dX8_findsSpans_105 : decode cX8_findsSpans 105 = .ok (.lload_n 2, 1) := by decide +kernel
theorem dX8_findsSpans_106 : decode cX8_findsSpans 106 = .ok (.invokevirtual 79, 3) := by decide +kernel
theorem dX8_findsSpans_109 : decode cX8_findsSpans 109 = .ok (.iinc 4 1, 3) := by decide +kernel
theorem dX8_findsSpans_112 : decode cX8_findsSpans 112 = .ok (.goto (-34), 3) := by decide +kernel
theorem dX8_findsSpans_115 : decode cX8_findsSpans 115 = .ok (.iinc 1 1, 3) := by decide +kernel
theorem dX8_findsSpans_118 : decode cX8_findsSpans 118 = .ok (.goto (-56), 3) := by decide +kernel
theorem dX8_findsSpans_121 : decode cX8_findsSpans 121 = .ok (.return_, 1) := by decide +kernel
theorem dX8_notesSpan_0 : decode cX8_notesSpan 0 = .ok (.aload_n 0, 1) := by decide +kernel
theorem dX8_notesSpan_1 : decode cX8_notesSpan 1 = .ok (.getfield 13, 3) := by decide +kernel
theorem dX8_notesSpan_4 : decode cX8_notesSpan 4 = .ok (.iload_n 1, 1) := by decide +kernel
theorem dX8_notesSpan_5 : decode cX8_notesSpan 5 = .ok (.iconst 0, 1) := by decide +kernel
theorem dX8_notesSpan_6 : decode cX8_notesSpan 6 = .ok (.iastore, 1) := by decide +kernel
theorem dX8_notesSpan_7 : decode cX8_notesSpan 7 = .ok (.aload_n 0, 1) := by decide +kernel
theorem dX8_notesSpan_8 : decode cX8_notesSpan 8 = .ok (.getfield 16, 3) := by decide +kernel
theorem dX8_notesSpan_11 : decode cX8_notesSpan 11 = .ok (.iload_n 1, 1) := by decide +kernel
theorem dX8_notesSpan_12 : decode cX8_notesSpan 12 = .ok (.iconst (-1), 1) := by decide +kernel
theorem dX8_notesSpan_13 : decode cX8_notesSpan 13 = .ok (.iastore, 1) := by decide +kernel
theorem dX8_notesSpan_14 : decode cX8_notesSpan 14 = .ok (.iconst 0, 1) := by decide +kernel
theorem dX8_notesSpan_15 : decode cX8_notesSpan 15 = .ok (.istore 4, 2) := by decide +kernel
theorem dX8_notesSpan_17 : decode cX8_notesSpan 17 = .ok (.iconst 0, 1) := by decide +kernel
theorem dX8_notesSpan_18 : decode cX8_notesSpan 18 = .ok (.istore 5, 2) := by decide +kernel
theorem dX8_notesSpan_20 : decode cX8_notesSpan 20 = .ok (.iload 5, 2) := by decide +kernel
theorem dX8_notesSpan_22 : decode cX8_notesSpan 22 = .ok (.bipush 48, 2) := by decide +kernel
theorem dX8_notesSpan_24 : decode cX8_notesSpan 24 = .ok (.if_icmp .ge 62, 3) := by decide +kernel
theorem dX8_notesSpan_27 : decode cX8_notesSpan 27 = .ok (.lload_n 2, 1) := by decide +kernel
theorem dX8_notesSpan_28 : decode cX8_notesSpan 28 = .ok (.iload 5, 2) := by decide +kernel
theorem dX8_notesSpan_30 : decode cX8_notesSpan 30 = .ok (.lshr, 1) := by decide +kernel
theorem dX8_notesSpan_31 : decode cX8_notesSpan 31 = .ok (.lconst 1, 1) := by decide +kernel
theorem dX8_notesSpan_32 : decode cX8_notesSpan 32 = .ok (.land, 1) := by decide +kernel
theorem dX8_notesSpan_33 : decode cX8_notesSpan 33 = .ok (.lconst 1, 1) := by decide +kernel
theorem dX8_notesSpan_34 : decode cX8_notesSpan 34 = .ok (.lcmp, 1) := by decide +kernel
theorem dX8_notesSpan_35 : decode cX8_notesSpan 35 = .ok (.ifCond .ne 10, 3) := by decide +kernel
theorem dX8_notesSpan_38 : decode cX8_notesSpan 38 = .ok (.iload 4, 2) := by decide +kernel
theorem dX8_notesSpan_40 : decode cX8_notesSpan 40 = .ok (.iconst 1, 1) := by decide +kernel
theorem dX8_notesSpan_41 : decode cX8_notesSpan 41 = .ok (.iadd, 1) := by decide +kernel
theorem dX8_notesSpan_42 : decode cX8_notesSpan 42 = .ok (.goto 4, 3) := by decide +kernel
theorem dX8_notesSpan_45 : decode cX8_notesSpan 45 = .ok (.iconst 0, 1) := by decide +kernel
theorem dX8_notesSpan_46 : decode cX8_notesSpan 46 = .ok (.istore 4, 2) := by decide +kernel
theorem dX8_notesSpan_48 : decode cX8_notesSpan 48 = .ok (.iload 4, 2) := by decide +kernel
theorem dX8_notesSpan_50 : decode cX8_notesSpan 50 = .ok (.aload_n 0, 1) := by decide +kernel
theorem dX8_notesSpan_51 : decode cX8_notesSpan 51 = .ok (.getfield 13, 3) := by decide +kernel
theorem dX8_notesSpan_54 : decode cX8_notesSpan 54 = .ok (.iload_n 1, 1) := by decide +kernel
theorem dX8_notesSpan_55 : decode cX8_notesSpan 55 = .ok (.iaload, 1) := by decide +kernel
theorem dX8_notesSpan_56 : decode cX8_notesSpan 56 = .ok (.if_icmp .le 24, 3) := by decide +kernel
theorem dX8_notesSpan_59 : decode cX8_notesSpan 59 = .ok (.aload_n 0, 1) := by decide +kernel
theorem dX8_notesSpan_60 : decode cX8_notesSpan 60 = .ok (.getfield 13, 3) := by decide +kernel
theorem dX8_notesSpan_63 : decode cX8_notesSpan 63 = .ok (.iload_n 1, 1) := by decide +kernel
theorem dX8_notesSpan_64 : decode cX8_notesSpan 64 = .ok (.iload 4, 2) := by decide +kernel
theorem dX8_notesSpan_66 : decode cX8_notesSpan 66 = .ok (.iastore, 1) := by decide +kernel
theorem dX8_notesSpan_67 : decode cX8_notesSpan 67 = .ok (.aload_n 0, 1) := by decide +kernel
theorem dX8_notesSpan_68 : decode cX8_notesSpan 68 = .ok (.getfield 16, 3) := by decide +kernel
theorem dX8_notesSpan_71 : decode cX8_notesSpan 71 = .ok (.iload_n 1, 1) := by decide +kernel
theorem dX8_notesSpan_72 : decode cX8_notesSpan 72 = .ok (.iload 5, 2) := by decide +kernel
theorem dX8_notesSpan_74 : decode cX8_notesSpan 74 = .ok (.iload 4, 2) := by decide +kernel
theorem dX8_notesSpan_76 : decode cX8_notesSpan 76 = .ok (.isub, 1) := by decide +kernel
theorem dX8_notesSpan_77 : decode cX8_notesSpan 77 = .ok (.iconst 1, 1) := by decide +kernel
theorem dX8_notesSpan_78 : decode cX8_notesSpan 78 = .ok (.iadd, 1) := by decide +kernel
theorem dX8_notesSpan_79 : decode cX8_notesSpan 79 = .ok (.iastore, 1) := by decide +kernel
theorem dX8_notesSpan_80 : decode cX8_notesSpan 80 = .ok (.iinc 5 1, 3) := by decide +kernel
theorem dX8_notesSpan_83 : decode cX8_notesSpan 83 = .ok (.goto (-63), 3) := by decide +kernel
theorem dX8_notesSpan_86 : decode cX8_notesSpan 86 = .ok (.return_, 1) := by decide +kernel
theorem dX8_span_0 : decode cX8_span 0 = .ok (.iload_n 1, 1) := by decide +kernel
theorem dX8_span_1 : decode cX8_span 1 = .ok (.iconst 0, 1) := by decide +kernel
theorem dX8_span_2 : decode cX8_span 2 = .ok (.bipush 35, 2) := by decide +kernel
theorem dX8_span_4 : decode cX8_span 4 = .ok (.invokestatic 53, 3) := by decide +kernel
theorem dX8_span_7 : decode cX8_span 7 = .ok (.ifCond .eq 24, 3) := by decide +kernel
theorem dX8_span_10 : decode cX8_span 10 = .ok (.iload_n 2, 1) := by decide +kernel
theorem dX8_span_11 : decode cX8_span 11 = .ok (.iconst 1, 1) := by decide +kernel
theorem dX8_span_12 : decode cX8_span 12 = .ok (.bipush 36, 2) := by decide +kernel
theorem dX8_span_14 : decode cX8_span 14 = .ok (.iload_n 1, 1) := by decide +kernel
theorem dX8_span_15 : decode cX8_span 15 = .ok (.isub, 1) := by decide +kernel
theorem dX8_span_16 : decode cX8_span 16 = .ok (.invokestatic 53, 3) := by decide +kernel
theorem dX8_span_19 : decode cX8_span 19 = .ok (.ifCond .eq 12, 3) := by decide +kernel
theorem dX8_span_22 : decode cX8_span 22 = .ok (.iload_n 3, 1) := by decide +kernel
theorem dX8_span_23 : decode cX8_span 23 = .ok (.iconst 0, 1) := by decide +kernel
theorem dX8_span_24 : decode cX8_span 24 = .ok (.iconst 1, 1) := by decide +kernel
theorem dX8_span_25 : decode cX8_span 25 = .ok (.invokestatic 53, 3) := by decide +kernel
theorem dX8_span_28 : decode cX8_span 28 = .ok (.ifCond .ne 6, 3) := by decide +kernel
theorem dX8_span_31 : decode cX8_span 31 = .ok (.bipush (-3), 2) := by decide +kernel
theorem dX8_span_33 : decode cX8_span 33 = .ok (.ireturn, 1) := by decide +kernel
theorem dX8_span_34 : decode cX8_span 34 = .ok (.aload_n 0, 1) := by decide +kernel
theorem dX8_span_35 : decode cX8_span 35 = .ok (.invokevirtual 83, 3) := by decide +kernel
theorem dX8_span_38 : decode cX8_span 38 = .ok (.iload_n 3, 1) := by decide +kernel
theorem dX8_span_39 : decode cX8_span 39 = .ok (.ifCond .ne 19, 3) := by decide +kernel
theorem dX8_span_42 : decode cX8_span 42 = .ok (.aload_n 0, 1) := by decide +kernel
theorem dX8_span_43 : decode cX8_span 43 = .ok (.getfield 13, 3) := by decide +kernel
theorem dX8_span_46 : decode cX8_span 46 = .ok (.bipush 36, 2) := by decide +kernel
theorem dX8_span_48 : decode cX8_span 48 = .ok (.iload_n 2, 1) := by decide +kernel
theorem dX8_span_49 : decode cX8_span 49 = .ok (.iconst 1, 1) := by decide +kernel
theorem dX8_span_50 : decode cX8_span 50 = .ok (.isub, 1) := by decide +kernel
theorem dX8_span_51 : decode cX8_span 51 = .ok (.imul, 1) := by decide +kernel
theorem dX8_span_52 : decode cX8_span 52 = .ok (.iload_n 1, 1) := by decide +kernel
theorem dX8_span_53 : decode cX8_span 53 = .ok (.iadd, 1) := by decide +kernel
theorem dX8_span_54 : decode cX8_span 54 = .ok (.iaload, 1) := by decide +kernel
theorem dX8_span_55 : decode cX8_span 55 = .ok (.goto 16, 3) := by decide +kernel
theorem dX8_span_58 : decode cX8_span 58 = .ok (.aload_n 0, 1) := by decide +kernel
theorem dX8_span_59 : decode cX8_span 59 = .ok (.getfield 16, 3) := by decide +kernel
theorem dX8_span_62 : decode cX8_span 62 = .ok (.bipush 36, 2) := by decide +kernel
theorem dX8_span_64 : decode cX8_span 64 = .ok (.iload_n 2, 1) := by decide +kernel
theorem dX8_span_65 : decode cX8_span 65 = .ok (.iconst 1, 1) := by decide +kernel
theorem dX8_span_66 : decode cX8_span 66 = .ok (.isub, 1) := by decide +kernel
theorem dX8_span_67 : decode cX8_span 67 = .ok (.imul, 1) := by decide +kernel
theorem dX8_span_68 : decode cX8_span 68 = .ok (.iload_n 1, 1) := by decide +kernel
theorem dX8_span_69 : decode cX8_span 69 = .ok (.iadd, 1) := by decide +kernel
theorem dX8_span_70 : decode cX8_span 70 = .ok (.iaload, 1) := by decide +kernel
theorem dX8_span_71 : decode cX8_span 71 = .ok (.ireturn, 1) := by decide +kernel
theorem dX8_of_0 : decode cX8_of 0 = .ok (.aload_n 0, 1) := by decide +kernel
theorem dX8_of_1 : decode cX8_of 1 = .ok (.getfield 7, 3) := by decide +kernel
theorem dX8_of_4 : decode cX8_of 4 = .ok (.bipush 32, 2) := by decide +kernel
theorem dX8_of_6 : decode cX8_of 6 = .ok (.iconst 3, 1) := by decide +kernel
theorem dX8_of_7 : decode cX8_of 7 = .ok (.iload_n 1, 1) := by decide +kernel
theorem dX8_of_8 : decode cX8_of 8 = .ok (.imul, 1) := by decide +kernel
theorem dX8_of_9 : decode cX8_of 9 = .ok (.iadd, 1) := by decide +kernel
theorem dX8_of_10 : decode cX8_of 10 = .ok (.iload_n 2, 1) := by decide +kernel
theorem dX8_of_11 : decode cX8_of 11 = .ok (.iadd, 1) := by decide +kernel
theorem dX8_of_12 : decode cX8_of 12 = .ok (.iaload, 1) := by decide +kernel
theorem dX8_of_13 : decode cX8_of 13 = .ok (.ireturn, 1) := by decide +kernel
theorem dX8_isWord_0 : decode cX8_isWord 0 = .ok (.iload_n 1, 1) := by decide +kernel
theorem dX8_isWord_1 : decode cX8_isWord 1 = .ok (.iconst 0, 1) := by decide +kernel
theorem dX8_isWord_2 : decode cX8_isWord 2 = .ok (.aload_n 0, 1) := by decide +kernel
theorem dX8_isWord_3 : decode cX8_isWord 3 = .ok (.getfield 7, 3) := by decide +kernel
theorem dX8_isWord_6 : decode cX8_isWord 6 = .ok (.bipush 31, 2) := by decide +kernel
theorem dX8_isWord_8 : decode cX8_isWord 8 = .ok (.iaload, 1) := by decide +kernel
theorem dX8_isWord_9 : decode cX8_isWord 9 = .ok (.iconst 1, 1) := by decide +kernel
theorem dX8_isWord_10 : decode cX8_isWord 10 = .ok (.isub, 1) := by decide +kernel
theorem dX8_isWord_11 : decode cX8_isWord 11 = .ok (.invokestatic 53, 3) := by decide +kernel
theorem dX8_isWord_14 : decode cX8_isWord 14 = .ok (.ireturn, 1) := by decide +kernel
theorem dX8_becomes_0 : decode cX8_becomes 0 = .ok (.aload_n 0, 1) := by decide +kernel
theorem dX8_becomes_1 : decode cX8_becomes 1 = .ok (.getfield 7, 3) := by decide +kernel
theorem dX8_becomes_4 : decode cX8_becomes 4 = .ok (.bipush 32, 2) := by decide +kernel
theorem dX8_becomes_6 : decode cX8_becomes 6 = .ok (.iconst 3, 1) := by decide +kernel
theorem dX8_becomes_7 : decode cX8_becomes 7 = .ok (.iload_n 1, 1) := by decide +kernel
theorem dX8_becomes_8 : decode cX8_becomes 8 = .ok (.imul, 1) := by decide +kernel
theorem dX8_becomes_9 : decode cX8_becomes 9 = .ok (.iadd, 1) := by decide +kernel
theorem dX8_becomes_10 : decode cX8_becomes 10 = .ok (.iload_n 2, 1) := by decide +kernel
theorem dX8_becomes_11 : decode cX8_becomes 11 = .ok (.iastore, 1) := by decide +kernel
theorem dX8_becomes_12 : decode cX8_becomes 12 = .ok (.aload_n 0, 1) := by decide +kernel
theorem dX8_becomes_13 : decode cX8_becomes 13 = .ok (.getfield 7, 3) := by decide +kernel
theorem dX8_becomes_16 : decode cX8_becomes 16 = .ok (.bipush 32, 2) := by decide +kernel
theorem dX8_becomes_18 : decode cX8_becomes 18 = .ok (.iconst 3, 1) := by decide +kernel
theorem dX8_becomes_19 : decode cX8_becomes 19 = .ok (.iload_n 1, 1) := by decide +kernel
theorem dX8_becomes_20 : decode cX8_becomes 20 = .ok (.imul, 1) := by decide +kernel
theorem dX8_becomes_21 : decode cX8_becomes 21 = .ok (.iadd, 1) := by decide +kernel
theorem dX8_becomes_22 : decode cX8_becomes 22 = .ok (.iconst 1, 1) := by decide +kernel
theorem dX8_becomes_23 : decode cX8_becomes 23 = .ok (.iadd, 1) := by decide +kernel
theorem dX8_becomes_24 : decode cX8_becomes 24 = .ok (.iload_n 3, 1) := by decide +kernel
theorem dX8_becomes_25 : decode cX8_becomes 25 = .ok (.iastore, 1) := by decide +kernel
theorem dX8_becomes_26 : decode cX8_becomes 26 = .ok (.aload_n 0, 1) := by decide +kernel
theorem dX8_becomes_27 : decode cX8_becomes 27 = .ok (.getfield 7, 3) := by decide +kernel
theorem dX8_becomes_30 : decode cX8_becomes 30 = .ok (.bipush 32, 2) := by decide +kernel
theorem dX8_becomes_32 : decode cX8_becomes 32 = .ok (.iconst 3, 1) := by decide +kernel
theorem dX8_becomes_33 : decode cX8_becomes 33 = .ok (.iload_n 1, 1) := by decide +kernel
theorem dX8_becomes_34 : decode cX8_becomes 34 = .ok (.imul, 1) := by decide +kernel
theorem dX8_becomes_35 : decode cX8_becomes 35 = .ok (.iadd, 1) := by decide +kernel
theorem dX8_becomes_36 : decode cX8_becomes 36 = .ok (.iconst 2, 1) := by decide +kernel
theorem dX8_becomes_37 : decode cX8_becomes 37 = .ok (.iadd, 1) := by decide +kernel
theorem dX8_becomes_38 : decode cX8_becomes 38 = .ok (.iload 4, 2) := by decide +kernel
theorem dX8_becomes_40 : decode cX8_becomes 40 = .ok (.iastore, 1) := by decide +kernel
theorem dX8_becomes_41 : decode cX8_becomes 41 = .ok (.return_, 1) := by decide +kernel
theorem dX8_addWord_0 : decode cX8_addWord 0 = .ok (.iload_n 1, 1) := by decide +kernel
theorem dX8_addWord_1 : decode cX8_addWord 1 = .ok (.iconst 1, 1) := by decide +kernel
theorem dX8_addWord_2 : decode cX8_addWord 2 = .ok (.bipush 12, 2) := by decide +kernel
theorem dX8_addWord_4 : decode cX8_addWord 4 = .ok (.invokestatic 53, 3) := by decide +kernel
theorem dX8_addWord_7 : decode cX8_addWord 7 = .ok (.ifCond .eq 12, 3) := by decide +kernel
theorem dX8_addWord_10 : decode cX8_addWord 10 = .ok (.iload_n 2, 1) := by decide +kernel
theorem dX8_addWord_11 : decode cX8_addWord 11 = .ok (.iconst 1, 1) := by decide +kernel
theorem dX8_addWord_12 : decode cX8_addWord 12 = .ok (.iconst 3, 1) := by decide +kernel
theorem dX8_addWord_13 : decode cX8_addWord 13 = .ok (.invokestatic 53, 3) := by decide +kernel
theorem dX8_addWord_16 : decode cX8_addWord 16 = .ok (.ifCond .ne 6, 3) := by decide +kernel
theorem dX8_addWord_19 : decode cX8_addWord 19 = .ok (.bipush (-3), 2) := by decide +kernel
theorem dX8_addWord_21 : decode cX8_addWord 21 = .ok (.ireturn, 1) := by decide +kernel
theorem dX8_addWord_22 : decode cX8_addWord 22 = .ok (.aload_n 0, 1) := by decide +kernel
theorem dX8_addWord_23 : decode cX8_addWord 23 = .ok (.getfield 7, 3) := by decide +kernel
theorem dX8_addWord_26 : decode cX8_addWord 26 = .ok (.bipush 31, 2) := by decide +kernel
theorem dX8_addWord_28 : decode cX8_addWord 28 = .ok (.iaload, 1) := by decide +kernel
theorem dX8_addWord_29 : decode cX8_addWord 29 = .ok (.bipush 14, 2) := by decide +kernel
theorem dX8_addWord_31 : decode cX8_addWord 31 = .ok (.if_icmp .ne 6, 3) := by decide +kernel
theorem dX8_addWord_34 : decode cX8_addWord 34 = .ok (.bipush (-5), 2) := by decide +kernel
theorem dX8_addWord_36 : decode cX8_addWord 36 = .ok (.ireturn, 1) := by decide +kernel
theorem dX8_addWord_37 : decode cX8_addWord 37 = .ok (.aload_n 0, 1) := by decide +kernel
theorem dX8_addWord_38 : decode cX8_addWord 38 = .ok (.invokevirtual 68, 3) := by decide +kernel
theorem dX8_addWord_41 : decode cX8_addWord 41 = .ok (.aload_n 0, 1) := by decide +kernel
theorem dX8_addWord_42 : decode cX8_addWord 42 = .ok (.aload_n 0, 1) := by decide +kernel
theorem dX8_addWord_43 : decode cX8_addWord 43 = .ok (.getfield 7, 3) := by decide +kernel
theorem dX8_addWord_46 : decode cX8_addWord 46 = .ok (.bipush 31, 2) := by decide +kernel
theorem dX8_addWord_48 : decode cX8_addWord 48 = .ok (.iaload, 1) := by decide +kernel
theorem dX8_addWord_49 : decode cX8_addWord 49 = .ok (.iload_n 1, 1) := by decide +kernel
theorem dX8_addWord_50 : decode cX8_addWord 50 = .ok (.iload_n 2, 1) := by decide +kernel
theorem dX8_addWord_51 : decode cX8_addWord 51 = .ok (.iconst 0, 1) := by decide +kernel
theorem dX8_addWord_52 : decode cX8_addWord 52 = .ok (.invokevirtual 86, 3) := by decide +kernel
theorem dX8_addWord_55 : decode cX8_addWord 55 = .ok (.aload_n 0, 1) := by decide +kernel
theorem dX8_addWord_56 : decode cX8_addWord 56 = .ok (.getfield 7, 3) := by decide +kernel
theorem dX8_addWord_59 : decode cX8_addWord 59 = .ok (.bipush 31, 2) := by decide +kernel
theorem dX8_addWord_61 : decode cX8_addWord 61 = .ok (.dup2, 1) := by decide +kernel
theorem dX8_addWord_62 : decode cX8_addWord 62 = .ok (.iaload, 1) := by decide +kernel
theorem dX8_addWord_63 : decode cX8_addWord 63 = .ok (.iconst 1, 1) := by decide +kernel
theorem dX8_addWord_64 : decode cX8_addWord 64 = .ok (.iadd, 1) := by decide +kernel
theorem dX8_addWord_65 : decode cX8_addWord 65 = .ok (.iastore, 1) := by decide +kernel
theorem dX8_addWord_66 : decode cX8_addWord 66 = .ok (.aload_n 0, 1) := by decide +kernel
theorem dX8_addWord_67 : decode cX8_addWord 67 = .ok (.getfield 7, 3) := by decide +kernel
theorem dX8_addWord_70 : decode cX8_addWord 70 = .ok (.bipush 31, 2) := by decide +kernel
theorem dX8_addWord_72 : decode cX8_addWord 72 = .ok (.iaload, 1) := by decide +kernel
theorem dX8_addWord_73 : decode cX8_addWord 73 = .ok (.iconst 1, 1) := by decide +kernel
theorem dX8_addWord_74 : decode cX8_addWord 74 = .ok (.isub, 1) := by decide +kernel
theorem dX8_addWord_75 : decode cX8_addWord 75 = .ok (.ireturn, 1) := by decide +kernel
theorem dX8_setWord_0 : decode cX8_setWord 0 = .ok (.aload_n 0, 1) := by decide +kernel
theorem dX8_setWord_1 : decode cX8_setWord 1 = .ok (.iload_n 1, 1) := by decide +kernel
theorem dX8_setWord_2 : decode cX8_setWord 2 = .ok (.invokevirtual 90, 3) := by decide +kernel
theorem dX8_setWord_5 : decode cX8_setWord 5 = .ok (.ifCond .ne 6, 3) := by decide +kernel
theorem dX8_setWord_8 : decode cX8_setWord 8 = .ok (.bipush (-2), 2) := by decide +kernel
theorem dX8_setWord_10 : decode cX8_setWord 10 = .ok (.ireturn, 1) := by decide +kernel
theorem dX8_setWord_11 : decode cX8_setWord 11 = .ok (.iload_n 2, 1) := by decide +kernel
theorem dX8_setWord_12 : decode cX8_setWord 12 = .ok (.iconst 1, 1) := by decide +kernel
theorem dX8_setWord_13 : decode cX8_setWord 13 = .ok (.bipush 12, 2) := by decide +kernel
theorem dX8_setWord_15 : decode cX8_setWord 15 = .ok (.invokestatic 53, 3) := by decide +kernel
theorem dX8_setWord_18 : decode cX8_setWord 18 = .ok (.ifCond .eq 12, 3) := by decide +kernel
theorem dX8_setWord_21 : decode cX8_setWord 21 = .ok (.iload_n 3, 1) := by decide +kernel
theorem dX8_setWord_22 : decode cX8_setWord 22 = .ok (.iconst 1, 1) := by decide +kernel
theorem dX8_setWord_23 : decode cX8_setWord 23 = .ok (.iconst 3, 1) := by decide +kernel
theorem dX8_setWord_24 : decode cX8_setWord 24 = .ok (.invokestatic 53, 3) := by decide +kernel
theorem dX8_setWord_27 : decode cX8_setWord 27 = .ok (.ifCond .ne 6, 3) := by decide +kernel
theorem dX8_setWord_30 : decode cX8_setWord 30 = .ok (.bipush (-3), 2) := by decide +kernel
theorem dX8_setWord_32 : decode cX8_setWord 32 = .ok (.ireturn, 1) := by decide +kernel
theorem dX8_setWord_33 : decode cX8_setWord 33 = .ok (.aload_n 0, 1) := by decide +kernel
theorem dX8_setWord_34 : decode cX8_setWord 34 = .ok (.invokevirtual 68, 3) := by decide +kernel
theorem dX8_setWord_37 : decode cX8_setWord 37 = .ok (.aload_n 0, 1) := by decide +kernel
theorem dX8_setWord_38 : decode cX8_setWord 38 = .ok (.iload_n 1, 1) := by decide +kernel
theorem dX8_setWord_39 : decode cX8_setWord 39 = .ok (.iconst 0, 1) := by decide +kernel
theorem dX8_setWord_40 : decode cX8_setWord 40 = .ok (.invokevirtual 93, 3) := by decide +kernel
theorem dX8_setWord_43 : decode cX8_setWord 43 = .ok (.istore 5, 2) := by decide +kernel
theorem dX8_setWord_45 : decode cX8_setWord 45 = .ok (.aload_n 0, 1) := by decide +kernel
theorem dX8_setWord_46 : decode cX8_setWord 46 = .ok (.iload_n 1, 1) := by decide +kernel
theorem dX8_setWord_47 : decode cX8_setWord 47 = .ok (.iload_n 2, 1) := by decide +kernel
theorem dX8_setWord_48 : decode cX8_setWord 48 = .ok (.iload_n 3, 1) := by decide +kernel
theorem dX8_setWord_49 : decode cX8_setWord 49 = .ok (.iload 4, 2) := by decide +kernel
theorem dX8_setWord_51 : decode cX8_setWord 51 = .ok (.ifCond .eq 7, 3) := by decide +kernel
theorem dX8_setWord_54 : decode cX8_setWord 54 = .ok (.iconst 1, 1) := by decide +kernel
theorem dX8_setWord_55 : decode cX8_setWord 55 = .ok (.goto 4, 3) := by decide +kernel
theorem dX8_setWord_58 : decode cX8_setWord 58 = .ok (.iconst 0, 1) := by decide +kernel
theorem dX8_setWord_59 : decode cX8_setWord 59 = .ok (.invokevirtual 86, 3) := by decide +kernel
theorem dX8_setWord_62 : decode cX8_setWord 62 = .ok (.iload 5, 2) := by decide +kernel
theorem dX8_setWord_64 : decode cX8_setWord 64 = .ok (.ireturn, 1) := by decide +kernel
theorem dX8_clearWords_0 : decode cX8_clearWords 0 = .ok (.aload_n 0, 1) := by decide +kernel
theorem dX8_clearWords_1 : decode cX8_clearWords 1 = .ok (.invokevirtual 68, 3) := by decide +kernel
theorem dX8_clearWords_4 : decode cX8_clearWords 4 = .ok (.aload_n 0, 1) := by decide +kernel
theorem dX8_clearWords_5 : decode cX8_clearWords 5 = .ok (.getfield 7, 3) := by decide +kernel
theorem dX8_clearWords_8 : decode cX8_clearWords 8 = .ok (.bipush 31, 2) := by decide +kernel
theorem dX8_clearWords_10 : decode cX8_clearWords 10 = .ok (.iaload, 1) := by decide +kernel
theorem dX8_clearWords_11 : decode cX8_clearWords 11 = .ok (.istore_n 1, 1) := by decide +kernel
theorem dX8_clearWords_12 : decode cX8_clearWords 12 = .ok (.aload_n 0, 1) := by decide +kernel
theorem dX8_clearWords_13 : decode cX8_clearWords 13 = .ok (.getfield 7, 3) := by decide +kernel
theorem dX8_clearWords_16 : decode cX8_clearWords 16 = .ok (.bipush 31, 2) := by decide +kernel
theorem dX8_clearWords_18 : decode cX8_clearWords 18 = .ok (.iconst 0, 1) := by decide +kernel
theorem dX8_clearWords_19 : decode cX8_clearWords 19 = .ok (.iastore, 1) := by decide +kernel
theorem dX8_clearWords_20 : decode cX8_clearWords 20 = .ok (.iload_n 1, 1) := by decide +kernel
theorem dX8_clearWords_21 : decode cX8_clearWords 21 = .ok (.ireturn, 1) := by decide +kernel
theorem dX8_setSizes_0 : decode cX8_setSizes 0 = .ok (.iload_n 1, 1) := by decide +kernel
theorem dX8_setSizes_1 : decode cX8_setSizes 1 = .ok (.iconst 0, 1) := by decide +kernel
theorem dX8_setSizes_2 : decode cX8_setSizes 2 = .ok (.iconst 4, 1) := by decide +kernel
theorem dX8_setSizes_3 : decode cX8_setSizes 3 = .ok (.invokestatic 53, 3) := by decide +kernel
theorem dX8_setSizes_6 : decode cX8_setSizes 6 = .ok (.ifCond .eq 34, 3) := by decide +kernel
theorem dX8_setSizes_9 : decode cX8_setSizes 9 = .ok (.iload_n 2, 1) := by decide +kernel
theorem dX8_setSizes_10 : decode cX8_setSizes 10 = .ok (.iconst 1, 1) := by decide +kernel
theorem dX8_setSizes_11 : decode cX8_setSizes 11 = .ok (.bipush 20, 2) := by decide +kernel
theorem dX8_setSizes_13 : decode cX8_setSizes 13 = .ok (.invokestatic 53, 3) := by decide +kernel
theorem dX8_setSizes_16 : decode cX8_setSizes 16 = .ok (.ifCond .eq 24, 3) := by decide +kernel
theorem dX8_setSizes_19 : decode cX8_setSizes 19 = .ok (.iload_n 3, 1) := by decide +kernel
theorem dX8_setSizes_20 : decode cX8_setSizes 20 = .ok (.iconst 1, 1) := by decide +kernel
theorem dX8_setSizes_21 : decode cX8_setSizes 21 = .ok (.bipush 20, 2) := by decide +kernel
theorem dX8_setSizes_23 : decode cX8_setSizes 23 = .ok (.invokestatic 53, 3) := by decide +kernel
theorem dX8_setSizes_26 : decode cX8_setSizes 26 = .ok (.ifCond .eq 14, 3) := by decide +kernel
theorem dX8_setSizes_29 : decode cX8_setSizes 29 = .ok (.iload 4, 2) := by decide +kernel
theorem dX8_setSizes_31 : decode cX8_setSizes 31 = .ok (.iconst 1, 1) := by decide +kernel
theorem dX8_setSizes_32 : decode cX8_setSizes 32 = .ok (.bipush 20, 2) := by decide +kernel
theorem dX8_setSizes_34 : decode cX8_setSizes 34 = .ok (.invokestatic 53, 3) := by decide +kernel
theorem dX8_setSizes_37 : decode cX8_setSizes 37 = .ok (.ifCond .ne 6, 3) := by decide +kernel
theorem dX8_setSizes_40 : decode cX8_setSizes 40 = .ok (.bipush (-3), 2) := by decide +kernel
theorem dX8_setSizes_42 : decode cX8_setSizes 42 = .ok (.ireturn, 1) := by decide +kernel
theorem dX8_setSizes_43 : decode cX8_setSizes 43 = .ok (.aload_n 0, 1) := by decide +kernel
theorem dX8_setSizes_44 : decode cX8_setSizes 44 = .ok (.invokevirtual 68, 3) := by decide +kernel
theorem dX8_setSizes_47 : decode cX8_setSizes 47 = .ok (.aload_n 0, 1) := by decide +kernel
theorem dX8_setSizes_48 : decode cX8_setSizes 48 = .ok (.getfield 7, 3) := by decide +kernel
theorem dX8_setSizes_51 : decode cX8_setSizes 51 = .ok (.bipush 74, 2) := by decide +kernel
theorem dX8_setSizes_53 : decode cX8_setSizes 53 = .ok (.iaload, 1) := by decide +kernel
theorem dX8_setSizes_54 : decode cX8_setSizes 54 = .ok (.istore 5, 2) := by decide +kernel
theorem dX8_setSizes_56 : decode cX8_setSizes 56 = .ok (.aload_n 0, 1) := by decide +kernel
theorem dX8_setSizes_57 : decode cX8_setSizes 57 = .ok (.getfield 7, 3) := by decide +kernel
theorem dX8_setSizes_60 : decode cX8_setSizes 60 = .ok (.bipush 74, 2) := by decide +kernel
theorem dX8_setSizes_62 : decode cX8_setSizes 62 = .ok (.iload_n 1, 1) := by decide +kernel
theorem dX8_setSizes_63 : decode cX8_setSizes 63 = .ok (.iastore, 1) := by decide +kernel
theorem dX8_setSizes_64 : decode cX8_setSizes 64 = .ok (.aload_n 0, 1) := by decide +kernel
theorem dX8_setSizes_65 : decode cX8_setSizes 65 = .ok (.getfield 7, 3) := by decide +kernel
theorem dX8_setSizes_68 : decode cX8_setSizes 68 = .ok (.bipush 75, 2) := by decide +kernel
theorem dX8_setSizes_70 : decode cX8_setSizes 70 = .ok (.iload_n 2, 1) := by decide +kernel
theorem dX8_setSizes_71 : decode cX8_setSizes 71 = .ok (.iastore, 1) := by decide +kernel
theorem dX8_setSizes_72 : decode cX8_setSizes 72 = .ok (.aload_n 0, 1) := by decide +kernel
theorem dX8_setSizes_73 : decode cX8_setSizes 73 = .ok (.getfield 7, 3) := by decide +kernel
theorem dX8_setSizes_76 : decode cX8_setSizes 76 = .ok (.bipush 76, 2) := by decide +kernel
theorem dX8_setSizes_78 : decode cX8_setSizes 78 = .ok (.iload_n 3, 1) := by decide +kernel
theorem dX8_setSizes_79 : decode cX8_setSizes 79 = .ok (.iastore, 1) := by decide +kernel
theorem dX8_setSizes_80 : decode cX8_setSizes 80 = .ok (.aload_n 0, 1) := by decide +kernel
theorem dX8_setSizes_81 : decode cX8_setSizes 81 = .ok (.getfield 7, 3) := by decide +kernel
theorem dX8_setSizes_84 : decode cX8_setSizes 84 = .ok (.bipush 77, 2) := by decide +kernel
theorem dX8_setSizes_86 : decode cX8_setSizes 86 = .ok (.iload 4, 2) := by decide +kernel
theorem dX8_setSizes_88 : decode cX8_setSizes 88 = .ok (.iastore, 1) := by decide +kernel
theorem dX8_setSizes_89 : decode cX8_setSizes 89 = .ok (.iload 5, 2) := by decide +kernel
theorem dX8_setSizes_91 : decode cX8_setSizes 91 = .ok (.ireturn, 1) := by decide +kernel
theorem dX8_setLines_0 : decode cX8_setLines 0 = .ok (.iload_n 1, 1) := by decide +kernel
theorem dX8_setLines_1 : decode cX8_setLines 1 = .ok (.iconst 0, 1) := by decide +kernel
theorem dX8_setLines_2 : decode cX8_setLines 2 = .ok (.bipush 35, 2) := by decide +kernel
theorem dX8_setLines_4 : decode cX8_setLines 4 = .ok (.invokestatic 53, 3) := by decide +kernel
theorem dX8_setLines_7 : decode cX8_setLines 7 = .ok (.ifCond .eq 32, 3) := by decide +kernel
theorem dX8_setLines_10 : decode cX8_setLines 10 = .ok (.iload_n 2, 1) := by decide +kernel
theorem dX8_setLines_11 : decode cX8_setLines 11 = .ok (.iconst 0, 1) := by decide +kernel
theorem dX8_setLines_12 : decode cX8_setLines 12 = .ok (.iconst 5, 1) := by decide +kernel
theorem dX8_setLines_13 : decode cX8_setLines 13 = .ok (.invokestatic 53, 3) := by decide +kernel
theorem dX8_setLines_16 : decode cX8_setLines 16 = .ok (.ifCond .eq 23, 3) := by decide +kernel
theorem dX8_setLines_19 : decode cX8_setLines 19 = .ok (.iload_n 3, 1) := by decide +kernel
theorem dX8_setLines_20 : decode cX8_setLines 20 = .ok (.iconst 0, 1) := by decide +kernel
theorem dX8_setLines_21 : decode cX8_setLines 21 = .ok (.iconst 2, 1) := by decide +kernel
theorem dX8_setLines_22 : decode cX8_setLines 22 = .ok (.invokestatic 53, 3) := by decide +kernel
theorem dX8_setLines_25 : decode cX8_setLines 25 = .ok (.ifCond .eq 14, 3) := by decide +kernel
theorem dX8_setLines_28 : decode cX8_setLines 28 = .ok (.iload 4, 2) := by decide +kernel
theorem dX8_setLines_30 : decode cX8_setLines 30 = .ok (.iconst 1, 1) := by decide +kernel
theorem dX8_setLines_31 : decode cX8_setLines 31 = .ok (.bipush 9, 2) := by decide +kernel
theorem dX8_setLines_33 : decode cX8_setLines 33 = .ok (.invokestatic 53, 3) := by decide +kernel
theorem dX8_setLines_36 : decode cX8_setLines 36 = .ok (.ifCond .ne 6, 3) := by decide +kernel
theorem dX8_setLines_39 : decode cX8_setLines 39 = .ok (.bipush (-3), 2) := by decide +kernel
theorem dX8_setLines_41 : decode cX8_setLines 41 = .ok (.ireturn, 1) := by decide +kernel
theorem dX8_setLines_42 : decode cX8_setLines 42 = .ok (.aload_n 0, 1) := by decide +kernel
theorem dX8_setLines_43 : decode cX8_setLines 43 = .ok (.invokevirtual 68, 3) := by decide +kernel
theorem dX8_setLines_46 : decode cX8_setLines 46 = .ok (.aload_n 0, 1) := by decide +kernel
theorem dX8_setLines_47 : decode cX8_setLines 47 = .ok (.getfield 7, 3) := by decide +kernel
theorem dX8_setLines_50 : decode cX8_setLines 50 = .ok (.bipush 78, 2) := by decide +kernel
theorem dX8_setLines_52 : decode cX8_setLines 52 = .ok (.iaload, 1) := by decide +kernel
theorem dX8_setLines_53 : decode cX8_setLines 53 = .ok (.istore 5, 2) := by decide +kernel
theorem dX8_setLines_55 : decode cX8_setLines 55 = .ok (.aload_n 0, 1) := by decide +kernel
theorem dX8_setLines_56 : decode cX8_setLines 56 = .ok (.getfield 7, 3) := by decide +kernel
theorem dX8_setLines_59 : decode cX8_setLines 59 = .ok (.bipush 78, 2) := by decide +kernel
theorem dX8_setLines_61 : decode cX8_setLines 61 = .ok (.iload_n 1, 1) := by decide +kernel
theorem dX8_setLines_62 : decode cX8_setLines 62 = .ok (.iastore, 1) := by decide +kernel
theorem dX8_setLines_63 : decode cX8_setLines 63 = .ok (.aload_n 0, 1) := by decide +kernel
theorem dX8_setLines_64 : decode cX8_setLines 64 = .ok (.getfield 7, 3) := by decide +kernel
theorem dX8_setLines_67 : decode cX8_setLines 67 = .ok (.bipush 79, 2) := by decide +kernel
theorem dX8_setLines_69 : decode cX8_setLines 69 = .ok (.iload_n 2, 1) := by decide +kernel
theorem dX8_setLines_70 : decode cX8_setLines 70 = .ok (.iastore, 1) := by decide +kernel
theorem dX8_setLines_71 : decode cX8_setLines 71 = .ok (.aload_n 0, 1) := by decide +kernel
theorem dX8_setLines_72 : decode cX8_setLines 72 = .ok (.getfield 7, 3) := by decide +kernel
theorem dX8_setLines_75 : decode cX8_setLines 75 = .ok (.bipush 80, 2) := by decide +kernel
theorem dX8_setLines_77 : decode cX8_setLines 77 = .ok (.iload_n 3, 1) := by decide +kernel
theorem dX8_setLines_78 : decode cX8_setLines 78 = .ok (.iastore, 1) := by decide +kernel
theorem dX8_setLines_79 : decode cX8_setLines 79 = .ok (.aload_n 0, 1) := by decide +kernel
theorem dX8_setLines_80 : decode cX8_setLines 80 = .ok (.getfield 7, 3) := by decide +kernel
theorem dX8_setLines_83 : decode cX8_setLines 83 = .ok (.bipush 81, 2) := by decide +kernel
theorem dX8_setLines_85 : decode cX8_setLines 85 = .ok (.iload 4, 2) := by decide +kernel
theorem dX8_setLines_87 : decode cX8_setLines 87 = .ok (.iastore, 1) := by decide +kernel
theorem dX8_setLines_88 : decode cX8_setLines 88 = .ok (.iload 5, 2) := by decide +kernel
theorem dX8_setLines_90 : decode cX8_setLines 90 = .ok (.ireturn, 1) := by decide +kernel
theorem dX8_count_0 : decode cX8_count 0 = .ok (.iload_n 1, 1) := by decide +kernel
theorem dX8_count_1 : decode cX8_count 1 = .ok (.iconst 0, 1) := by decide +kernel
theorem dX8_count_2 : decode cX8_count 2 = .ok (.bipush 11, 2) := by decide +kernel
theorem dX8_count_4 : decode cX8_count 4 = .ok (.invokestatic 53, 3) := by decide +kernel
theorem dX8_count_7 : decode cX8_count 7 = .ok (.ifCond .ne 6, 3) := by decide +kernel
theorem dX8_count_10 : decode cX8_count 10 = .ok (.bipush (-3), 2) := by decide +kernel
theorem dX8_count_12 : decode cX8_count 12 = .ok (.ireturn, 1) := by decide +kernel
theorem dX8_count_13 : decode cX8_count 13 = .ok (.iload_n 1, 1) := by decide +kernel
theorem dX8_count_14 : decode cX8_count 14 = .ok (.ifCond .ne 12, 3) := by decide +kernel
theorem dX8_count_17 : decode cX8_count 17 = .ok (.aload_n 0, 1) := by decide +kernel
theorem dX8_count_18 : decode cX8_count 18 = .ok (.getfield 7, 3) := by decide +kernel
theorem dX8_count_21 : decode cX8_count 21 = .ok (.iconst 0, 1) := by decide +kernel
theorem dX8_count_22 : decode cX8_count 22 = .ok (.iaload, 1) := by decide +kernel
theorem dX8_count_23 : decode cX8_count 23 = .ok (.goto 58, 3) := by decide +kernel
theorem dX8_count_26 : decode cX8_count 26 = .ok (.iload_n 1, 1) := by decide +kernel
theorem dX8_count_27 : decode cX8_count 27 = .ok (.iconst 1, 1) := by decide +kernel
theorem dX8_count_28 : decode cX8_count 28 = .ok (.if_icmp .ne 13, 3) := by decide +kernel
theorem dX8_count_31 : decode cX8_count 31 = .ok (.aload_n 0, 1) := by decide +kernel
theorem dX8_count_32 : decode cX8_count 32 = .ok (.getfield 7, 3) := by decide +kernel
theorem dX8_count_35 : decode cX8_count 35 = .ok (.bipush 31, 2) := by decide +kernel
theorem dX8_count_37 : decode cX8_count 37 = .ok (.iaload, 1) := by decide +kernel
theorem dX8_count_38 : decode cX8_count 38 = .ok (.goto 43, 3) := by decide +kernel
theorem dX8_count_41 : decode cX8_count 41 = .ok (.iload_n 1, 1) := by decide +kernel
theorem dX8_count_42 : decode cX8_count 42 = .ok (.bipush 10, 2) := by decide +kernel
theorem dX8_count_44 : decode cX8_count 44 = .ok (.if_icmp .ge 17, 3) := by decide +kernel
theorem dX8_count_47 : decode cX8_count 47 = .ok (.aload_n 0, 1) := by decide +kernel
theorem dX8_count_48 : decode cX8_count 48 = .ok (.getfield 7, 3) := by decide +kernel
theorem dX8_count_51 : decode cX8_count 51 = .ok (.bipush 74, 2) := by decide +kernel
theorem dX8_count_53 : decode cX8_count 53 = .ok (.iload_n 1, 1) := by decide +kernel
theorem dX8_count_54 : decode cX8_count 54 = .ok (.iadd, 1) := by decide +kernel
theorem dX8_count_55 : decode cX8_count 55 = .ok (.iconst 2, 1) := by decide +kernel
theorem dX8_count_56 : decode cX8_count 56 = .ok (.isub, 1) := by decide +kernel
theorem dX8_count_57 : decode cX8_count 57 = .ok (.iaload, 1) := by decide +kernel
theorem dX8_count_58 : decode cX8_count 58 = .ok (.goto 23, 3) := by decide +kernel
theorem dX8_count_61 : decode cX8_count 61 = .ok (.iload_n 1, 1) := by decide +kernel
theorem dX8_count_62 : decode cX8_count 62 = .ok (.bipush 10, 2) := by decide +kernel
theorem dX8_count_64 : decode cX8_count 64 = .ok (.if_icmp .ne 10, 3) := by decide +kernel
theorem dX8_count_67 : decode cX8_count 67 = .ok (.aload_n 0, 1) := by decide +kernel
theorem dX8_count_68 : decode cX8_count 68 = .ok (.invokevirtual 75, 3) := by decide +kernel
theorem dX8_count_71 : decode cX8_count 71 = .ok (.goto 10, 3) := by decide +kernel
theorem dX8_count_74 : decode cX8_count 74 = .ok (.aload_n 0, 1) := by decide +kernel
theorem dX8_count_75 : decode cX8_count 75 = .ok (.getfield 7, 3) := by decide +kernel
theorem dX8_count_78 : decode cX8_count 78 = .ok (.bipush 82, 2) := by decide +kernel
theorem dX8_count_80 : decode cX8_count 80 = .ok (.iaload, 1) := by decide +kernel
theorem dX8_count_81 : decode cX8_count 81 = .ok (.ireturn, 1) := by decide +kernel
theorem dX8_word_0 : decode cX8_word 0 = .ok (.aload_n 0, 1) := by decide +kernel
theorem dX8_word_1 : decode cX8_word 1 = .ok (.iload_n 1, 1) := by decide +kernel
theorem dX8_word_2 : decode cX8_word 2 = .ok (.invokevirtual 90, 3) := by decide +kernel
theorem dX8_word_5 : decode cX8_word 5 = .ok (.ifCond .ne 6, 3) := by decide +kernel
theorem dX8_word_8 : decode cX8_word 8 = .ok (.bipush (-2), 2) := by decide +kernel
theorem dX8_word_10 : decode cX8_word 10 = .ok (.ireturn, 1) := by decide +kernel
theorem dX8_word_11 : decode cX8_word 11 = .ok (.iload_n 2, 1) := by decide +kernel
theorem dX8_word_12 : decode cX8_word 12 = .ok (.iconst 0, 1) := by decide +kernel
theorem dX8_word_13 : decode cX8_word 13 = .ok (.iconst 2, 1) := by decide +kernel
theorem dX8_word_14 : decode cX8_word 14 = .ok (.invokestatic 53, 3) := by decide +kernel
theorem dX8_word_17 : decode cX8_word 17 = .ok (.ifCond .eq 12, 3) := by decide +kernel
theorem dX8_word_20 : decode cX8_word 20 = .ok (.aload_n 0, 1) := by decide +kernel
theorem dX8_word_21 : decode cX8_word 21 = .ok (.iload_n 1, 1) := by decide +kernel
theorem dX8_word_22 : decode cX8_word 22 = .ok (.iload_n 2, 1) := by decide +kernel
theorem dX8_word_23 : decode cX8_word 23 = .ok (.invokevirtual 93, 3) := by decide +kernel
theorem dX8_word_26 : decode cX8_word 26 = .ok (.goto 5, 3) := by decide +kernel
theorem dX8_word_29 : decode cX8_word 29 = .ok (.bipush (-3), 2) := by decide +kernel
theorem dX8_word_31 : decode cX8_word 31 = .ok (.ireturn, 1) := by decide +kernel
theorem dX8_sizeOf_0 : decode cX8_sizeOf 0 = .ok (.iload_n 2, 1) := by decide +kernel
theorem dX8_sizeOf_1 : decode cX8_sizeOf 1 = .ok (.aload_n 0, 1) := by decide +kernel
theorem dX8_sizeOf_2 : decode cX8_sizeOf 2 = .ok (.iload_n 1, 1) := by decide +kernel
theorem dX8_sizeOf_3 : decode cX8_sizeOf 3 = .ok (.iconst 1, 1) := by decide +kernel
theorem dX8_sizeOf_4 : decode cX8_sizeOf 4 = .ok (.invokevirtual 93, 3) := by decide +kernel
theorem dX8_sizeOf_7 : decode cX8_sizeOf 7 = .ok (.iconst 1, 1) := by decide +kernel
theorem dX8_sizeOf_8 : decode cX8_sizeOf 8 = .ok (.isub, 1) := by decide +kernel
theorem dX8_sizeOf_9 : decode cX8_sizeOf 9 = .ok (.aload_n 0, 1) := by decide +kernel
theorem dX8_sizeOf_10 : decode cX8_sizeOf 10 = .ok (.getfield 7, 3) := by decide +kernel
theorem dX8_sizeOf_13 : decode cX8_sizeOf 13 = .ok (.bipush 74, 2) := by decide +kernel
theorem dX8_sizeOf_15 : decode cX8_sizeOf 15 = .ok (.iaload, 1) := by decide +kernel
theorem dX8_sizeOf_16 : decode cX8_sizeOf 16 = .ok (.imul, 1) := by decide +kernel
theorem dX8_sizeOf_17 : decode cX8_sizeOf 17 = .ok (.iadd, 1) := by decide +kernel
theorem dX8_sizeOf_18 : decode cX8_sizeOf 18 = .ok (.ireturn, 1) := by decide +kernel
theorem dX8_isLeast_0 : decode cX8_isLeast 0 = .ok (.aload_n 0, 1) := by decide +kernel
theorem dX8_isLeast_1 : decode cX8_isLeast 1 = .ok (.getfield 7, 3) := by decide +kernel
theorem dX8_isLeast_4 : decode cX8_isLeast 4 = .ok (.bipush 31, 2) := by decide +kernel
theorem dX8_isLeast_6 : decode cX8_isLeast 6 = .ok (.iaload, 1) := by decide +kernel
theorem dX8_isLeast_7 : decode cX8_isLeast 7 = .ok (.ifCond .le 7, 3) := by decide +kernel
theorem dX8_isLeast_10 : decode cX8_isLeast 10 = .ok (.iconst 1, 1) := by decide +kernel
theorem dX8_isLeast_11 : decode cX8_isLeast 11 = .ok (.goto 4, 3) := by decide +kernel
theorem dX8_isLeast_14 : decode cX8_isLeast 14 = .ok (.iconst 0, 1) := by decide +kernel
theorem dX8_isLeast_15 : decode cX8_isLeast 15 = .ok (.istore_n 2, 1) := by decide +kernel
theorem dX8_isLeast_16 : decode cX8_isLeast 16 = .ok (.iconst 0, 1) := by decide +kernel
theorem dX8_isLeast_17 : decode cX8_isLeast 17 = .ok (.istore_n 3, 1) := by decide +kernel
theorem dX8_isLeast_18 : decode cX8_isLeast 18 = .ok (.iload_n 3, 1) := by decide +kernel
theorem dX8_isLeast_19 : decode cX8_isLeast 19 = .ok (.aload_n 0, 1) := by decide +kernel
theorem dX8_isLeast_20 : decode cX8_isLeast 20 = .ok (.getfield 7, 3) := by decide +kernel
theorem dX8_isLeast_23 : decode cX8_isLeast 23 = .ok (.bipush 31, 2) := by decide +kernel
theorem dX8_isLeast_25 : decode cX8_isLeast 25 = .ok (.iaload, 1) := by decide +kernel
theorem dX8_isLeast_26 : decode cX8_isLeast 26 = .ok (.if_icmp .ge 44, 3) := by decide +kernel
theorem dX8_isLeast_29 : decode cX8_isLeast 29 = .ok (.iload_n 2, 1) := by decide +kernel
theorem dX8_isLeast_30 : decode cX8_isLeast 30 = .ok (.ifCond .eq 32, 3) := by decide +kernel
theorem dX8_isLeast_33 : decode cX8_isLeast 33 = .ok (.aload_n 0, 1) := by decide +kernel
theorem dX8_isLeast_34 : decode cX8_isLeast 34 = .ok (.iload_n 3, 1) := by decide +kernel
theorem dX8_isLeast_35 : decode cX8_isLeast 35 = .ok (.iload_n 1, 1) := by decide +kernel
theorem dX8_isLeast_36 : decode cX8_isLeast 36 = .ok (.invokevirtual 96, 3) := by decide +kernel
theorem dX8_isLeast_39 : decode cX8_isLeast 39 = .ok (.aload_n 0, 1) := by decide +kernel
theorem dX8_isLeast_40 : decode cX8_isLeast 40 = .ok (.getfield 7, 3) := by decide +kernel
theorem dX8_isLeast_43 : decode cX8_isLeast 43 = .ok (.bipush 75, 2) := by decide +kernel
theorem dX8_isLeast_45 : decode cX8_isLeast 45 = .ok (.aload_n 0, 1) := by decide +kernel
theorem dX8_isLeast_46 : decode cX8_isLeast 46 = .ok (.iload_n 3, 1) := by decide +kernel
theorem dX8_isLeast_47 : decode cX8_isLeast 47 = .ok (.iconst 1, 1) := by decide +kernel
theorem dX8_isLeast_48 : decode cX8_isLeast 48 = .ok (.invokevirtual 93, 3) := by decide +kernel
theorem dX8_isLeast_51 : decode cX8_isLeast 51 = .ok (.iadd, 1) := by decide +kernel
theorem dX8_isLeast_52 : decode cX8_isLeast 52 = .ok (.iconst 1, 1) := by decide +kernel
theorem dX8_isLeast_53 : decode cX8_isLeast 53 = .ok (.isub, 1) := by decide +kernel
theorem dX8_isLeast_54 : decode cX8_isLeast 54 = .ok (.iaload, 1) := by decide +kernel
theorem dX8_isLeast_55 : decode cX8_isLeast 55 = .ok (.if_icmp .lt 7, 3) := by decide +kernel
theorem dX8_isLeast_58 : decode cX8_isLeast 58 = .ok (.iconst 1, 1) := by decide +kernel
theorem dX8_isLeast_59 : decode cX8_isLeast 59 = .ok (.goto 4, 3) := by decide +kernel
theorem dX8_isLeast_62 : decode cX8_isLeast 62 = .ok (.iconst 0, 1) := by decide +kernel
theorem dX8_isLeast_63 : decode cX8_isLeast 63 = .ok (.istore_n 2, 1) := by decide +kernel
theorem dX8_isLeast_64 : decode cX8_isLeast 64 = .ok (.iinc 3 1, 3) := by decide +kernel
theorem dX8_isLeast_67 : decode cX8_isLeast 67 = .ok (.goto (-49), 3) := by decide +kernel
theorem dX8_isLeast_70 : decode cX8_isLeast 70 = .ok (.iload_n 2, 1) := by decide +kernel
theorem dX8_isLeast_71 : decode cX8_isLeast 71 = .ok (.ireturn, 1) := by decide +kernel
theorem dX8_breaks_0 : decode cX8_breaks 0 = .ok (.iload_n 2, 1) := by decide +kernel
theorem dX8_breaks_1 : decode cX8_breaks 1 = .ok (.ifCond .eq 22, 3) := by decide +kernel
theorem dX8_breaks_4 : decode cX8_breaks 4 = .ok (.iload_n 1, 1) := by decide +kernel
theorem dX8_breaks_5 : decode cX8_breaks 5 = .ok (.aload_n 0, 1) := by decide +kernel
theorem dX8_breaks_6 : decode cX8_breaks 6 = .ok (.getfield 7, 3) := by decide +kernel
theorem dX8_breaks_9 : decode cX8_breaks 9 = .ok (.bipush 31, 2) := by decide +kernel
theorem dX8_breaks_11 : decode cX8_breaks 11 = .ok (.iaload, 1) := by decide +kernel
theorem dX8_breaks_12 : decode cX8_breaks 12 = .ok (.iconst 1, 1) := by decide +kernel
theorem dX8_breaks_13 : decode cX8_breaks 13 = .ok (.isub, 1) := by decide +kernel
theorem dX8_breaks_14 : decode cX8_breaks 14 = .ok (.iload_n 2, 1) := by decide +kernel
theorem dX8_breaks_15 : decode cX8_breaks 15 = .ok (.isub, 1) := by decide +kernel
theorem dX8_breaks_16 : decode cX8_breaks 16 = .ok (.ishr, 1) := by decide +kernel
theorem dX8_breaks_17 : decode cX8_breaks 17 = .ok (.iconst 1, 1) := by decide +kernel
theorem dX8_breaks_18 : decode cX8_breaks 18 = .ok (.iand, 1) := by decide +kernel
theorem dX8_breaks_19 : decode cX8_breaks 19 = .ok (.iconst 1, 1) := by decide +kernel
theorem dX8_breaks_20 : decode cX8_breaks 20 = .ok (.if_icmp .ne 7, 3) := by decide +kernel
theorem dX8_breaks_23 : decode cX8_breaks 23 = .ok (.iconst 1, 1) := by decide +kernel
theorem dX8_breaks_24 : decode cX8_breaks 24 = .ok (.goto 4, 3) := by decide +kernel
theorem dX8_breaks_27 : decode cX8_breaks 27 = .ok (.iconst 0, 1) := by decide +kernel
theorem dX8_breaks_28 : decode cX8_breaks 28 = .ok (.ireturn, 1) := by decide +kernel
theorem dX8_least_0 : decode cX8_least 0 = .ok (.iload_n 0, 1) := by decide +kernel
theorem dX8_least_1 : decode cX8_least 1 = .ok (.iload_n 1, 1) := by decide +kernel
theorem dX8_least_2 : decode cX8_least 2 = .ok (.if_icmp .ge 7, 3) := by decide +kernel
theorem dX8_least_5 : decode cX8_least 5 = .ok (.iload_n 0, 1) := by decide +kernel
theorem dX8_least_6 : decode cX8_least 6 = .ok (.goto 4, 3) := by decide +kernel
theorem dX8_least_9 : decode cX8_least 9 = .ok (.iload_n 1, 1) := by decide +kernel
theorem dX8_least_10 : decode cX8_least 10 = .ok (.ireturn, 1) := by decide +kernel
theorem dX8_lays_0 : decode cX8_lays 0 = .ok (.aload_n 0, 1) := by decide +kernel
theorem dX8_lays_1 : decode cX8_lays 1 = .ok (.iconst 0, 1) := by decide +kernel
theorem dX8_lays_2 : decode cX8_lays 2 = .ok (.putfield 99, 3) := by decide +kernel
theorem dX8_lays_5 : decode cX8_lays 5 = .ok (.aload_n 0, 1) := by decide +kernel
theorem dX8_lays_6 : decode cX8_lays 6 = .ok (.iconst 0, 1) := by decide +kernel
theorem dX8_lays_7 : decode cX8_lays 7 = .ok (.putfield 102, 3) := by decide +kernel
theorem dX8_lays_10 : decode cX8_lays 10 = .ok (.iconst 0, 1) := by decide +kernel
theorem dX8_lays_11 : decode cX8_lays 11 = .ok (.istore_n 3, 1) := by decide +kernel
theorem dX8_lays_12 : decode cX8_lays 12 = .ok (.aload_n 0, 1) := by decide +kernel
theorem dX8_lays_13 : decode cX8_lays 13 = .ok (.getfield 7, 3) := by decide +kernel
theorem dX8_lays_16 : decode cX8_lays 16 = .ok (.bipush 78, 2) := by decide +kernel
theorem dX8_lays_18 : decode cX8_lays 18 = .ok (.iaload, 1) := by decide +kernel
theorem dX8_lays_19 : decode cX8_lays 19 = .ok (.istore 4, 2) := by decide +kernel
theorem dX8_lays_21 : decode cX8_lays 21 = .ok (.iconst 0, 1) := by decide +kernel
theorem dX8_lays_22 : decode cX8_lays 22 = .ok (.istore 5, 2) := by decide +kernel
theorem dX8_lays_24 : decode cX8_lays 24 = .ok (.iload 5, 2) := by decide +kernel
theorem dX8_lays_26 : decode cX8_lays 26 = .ok (.aload_n 0, 1) := by decide +kernel
theorem dX8_lays_27 : decode cX8_lays 27 = .ok (.getfield 7, 3) := by decide +kernel
theorem dX8_lays_30 : decode cX8_lays 30 = .ok (.bipush 31, 2) := by decide +kernel
theorem dX8_lays_32 : decode cX8_lays 32 = .ok (.iaload, 1) := by decide +kernel
theorem dX8_lays_33 : decode cX8_lays 33 = .ok (.if_icmp .ge 355, 3) := by decide +kernel
theorem dX8_lays_36 : decode cX8_lays 36 = .ok (.iload 5, 2) := by decide +kernel
theorem dX8_lays_38 : decode cX8_lays 38 = .ok (.istore 6, 2) := by decide +kernel
theorem dX8_lays_40 : decode cX8_lays 40 = .ok (.iconst 0, 1) := by decide +kernel
theorem dX8_lays_41 : decode cX8_lays 41 = .ok (.istore 7, 2) := by decide +kernel
theorem dX8_lays_43 : decode cX8_lays 43 = .ok (.iconst 0, 1) := by decide +kernel
theorem dX8_lays_44 : decode cX8_lays 44 = .ok (.istore 8, 2) := by decide +kernel
theorem dX8_lays_46 : decode cX8_lays 46 = .ok (.iconst 1, 1) := by decide +kernel
theorem dX8_lays_47 : decode cX8_lays 47 = .ok (.istore 9, 2) := by decide +kernel
theorem dX8_lays_49 : decode cX8_lays 49 = .ok (.iload 9, 2) := by decide +kernel
theorem dX8_lays_51 : decode cX8_lays 51 = .ok (.ifCond .eq 128, 3) := by decide +kernel
theorem dX8_lays_54 : decode cX8_lays 54 = .ok (.aload_n 0, 1) := by decide +kernel
theorem dX8_lays_55 : decode cX8_lays 55 = .ok (.iload 5, 2) := by decide +kernel
theorem dX8_lays_57 : decode cX8_lays 57 = .ok (.iload_n 1, 1) := by decide +kernel
theorem dX8_lays_58 : decode cX8_lays 58 = .ok (.invokevirtual 96, 3) := by decide +kernel
theorem dX8_lays_61 : decode cX8_lays 61 = .ok (.istore 10, 2) := by decide +kernel
theorem dX8_lays_63 : decode cX8_lays 63 = .ok (.iload 8, 2) := by decide +kernel
theorem dX8_lays_65 : decode cX8_lays 65 = .ok (.aload_n 0, 1) := by decide +kernel
theorem dX8_lays_66 : decode cX8_lays 66 = .ok (.iload 5, 2) := by decide +kernel
theorem dX8_lays_68 : decode cX8_lays 68 = .ok (.iconst 0, 1) := by decide +kernel
theorem dX8_lays_69 : decode cX8_lays 69 = .ok (.invokevirtual 93, 3) := by decide +kernel
theorem dX8_lays_72 : decode cX8_lays 72 = .ok (.iload 10, 2) := by decide +kernel
theorem dX8_lays_74 : decode cX8_lays 74 = .ok (.imul, 1) := by decide +kernel
theorem dX8_lays_75 : decode cX8_lays 75 = .ok (.iload 5, 2) := by decide +kernel
theorem dX8_lays_77 : decode cX8_lays 77 = .ok (.iload 6, 2) := by decide +kernel
theorem dX8_lays_79 : decode cX8_lays 79 = .ok (.if_icmp .le 20, 3) := by decide +kernel
theorem dX8_lays_82 : decode cX8_lays 82 = .ok (.iload 10, 2) := by decide +kernel
theorem dX8_lays_84 : decode cX8_lays 84 = .ok (.aload_n 0, 1) := by decide +kernel
theorem dX8_lays_85 : decode cX8_lays 85 = .ok (.iload 5, 2) := by decide +kernel
theorem dX8_lays_87 : decode cX8_lays 87 = .ok (.iconst 1, 1) := by decide +kernel
theorem dX8_lays_88 : decode cX8_lays 88 = .ok (.isub, 1) := by decide +kernel
theorem dX8_lays_89 : decode cX8_lays 89 = .ok (.iload_n 1, 1) := by decide +kernel
theorem dX8_lays_90 : decode cX8_lays 90 = .ok (.invokevirtual 96, 3) := by decide +kernel
theorem dX8_lays_93 : decode cX8_lays 93 = .ok (.invokestatic 105, 3) := by decide +kernel
theorem dX8_lays_96 : decode cX8_lays 96 = .ok (.goto 4, 3) := by decide +kernel
theorem dX8_lays_99 : decode cX8_lays 99 = .ok (.iconst 0, 1) := by decide +kernel
theorem dX8_lays_100 : decode cX8_lays 100 = .ok (.iadd, 1) := by decide +kernel
theorem dX8_lays_101 : decode cX8_lays 101 = .ok (.iadd, 1) := by decide +kernel
theorem dX8_lays_102 : decode cX8_lays 102 = .ok (.istore 8, 2) := by decide +kernel
theorem dX8_lays_104 : decode cX8_lays 104 = .ok (.iload 10, 2) := by decide +kernel
theorem dX8_lays_106 : decode cX8_lays 106 = .ok (.iload 7, 2) := by decide +kernel
theorem dX8_lays_108 : decode cX8_lays 108 = .ok (.if_icmp .le 8, 3) := by decide +kernel
theorem dX8_lays_111 : decode cX8_lays 111 = .ok (.iload 10, 2) := by decide +kernel
theorem dX8_lays_113 : decode cX8_lays 113 = .ok (.goto 5, 3) := by decide +kernel
theorem dX8_lays_116 : decode cX8_lays 116 = .ok (.iload 7, 2) := by decide +kernel
theorem dX8_lays_118 : decode cX8_lays 118 = .ok (.istore 7, 2) := by decide +kernel
theorem dX8_lays_120 : decode cX8_lays 120 = .ok (.iinc 5 1, 3) := by decide +kernel
theorem dX8_lays_123 : decode cX8_lays 123 = .ok (.iload 5, 2) := by decide +kernel
theorem dX8_lays_125 : decode cX8_lays 125 = .ok (.aload_n 0, 1) := by decide +kernel
theorem dX8_lays_126 : decode cX8_lays 126 = .ok (.getfield 7, 3) := by decide +kernel
theorem dX8_lays_129 : decode cX8_lays 129 = .ok (.bipush 31, 2) := by decide +kernel
theorem dX8_lays_131 : decode cX8_lays 131 = .ok (.iaload, 1) := by decide +kernel
theorem dX8_lays_132 : decode cX8_lays 132 = .ok (.if_icmp .ge 17, 3) := by decide +kernel
theorem dX8_lays_135 : decode cX8_lays 135 = .ok (.aload_n 0, 1) := by decide +kernel
theorem dX8_lays_136 : decode cX8_lays 136 = .ok (.iload_n 2, 1) := by decide +kernel
theorem dX8_lays_137 : decode cX8_lays 137 = .ok (.iload 5, 2) := by decide +kernel
theorem dX8_lays_139 : decode cX8_lays 139 = .ok (.invokevirtual 108, 3) := by decide +kernel
theorem dX8_lays_142 : decode cX8_lays 142 = .ok (.ifCond .ne 7, 3) := by decide +kernel
theorem dX8_lays_145 : decode cX8_lays 145 = .ok (.iconst 1, 1) := by decide +kernel
theorem dX8_lays_146 : decode cX8_lays 146 = .ok (.goto 4, 3) := by decide +kernel
theorem dX8_lays_149 : decode cX8_lays 149 = .ok (.iconst 0, 1) := by decide +kernel
theorem dX8_lays_150 : decode cX8_lays 150 = .ok (.istore 9, 2) := by decide +kernel
theorem dX8_lays_152 : decode cX8_lays 152 = .ok (.aload_n 0, 1) := by decide +kernel
theorem dX8_lays_153 : decode cX8_lays 153 = .ok (.iload 5, 2) := by decide +kernel
theorem dX8_lays_155 : decode cX8_lays 155 = .ok (.putfield 111, 3) := by decide +kernel
theorem dX8_lays_158 : decode cX8_lays 158 = .ok (.iload 9, 2) := by decide +kernel
theorem dX8_lays_160 : decode cX8_lays 160 = .ok (.ifCond .eq 16, 3) := by decide +kernel
theorem dX8_lays_163 : decode cX8_lays 163 = .ok (.aload_n 0, 1) := by decide +kernel
theorem dX8_lays_164 : decode cX8_lays 164 = .ok (.iload 5, 2) := by decide +kernel
theorem dX8_lays_166 : decode cX8_lays 166 = .ok (.iconst 2, 1) := by decide +kernel
theorem dX8_lays_167 : decode cX8_lays 167 = .ok (.invokevirtual 93, 3) := by decide +kernel
theorem dX8_lays_170 : decode cX8_lays 170 = .ok (.iconst 1, 1) := by decide +kernel
theorem dX8_lays_171 : decode cX8_lays 171 = .ok (.if_icmp .ne 5, 3) := by decide +kernel
theorem dX8_lays_174 : decode cX8_lays 174 = .ok (.iconst (-1), 1) := by decide +kernel
theorem dX8_lays_175 : decode cX8_lays 175 = .ok (.ireturn, 1) := by decide +kernel
theorem dX8_lays_176 : decode cX8_lays 176 = .ok (.goto (-127), 3) := by decide +kernel
theorem dX8_lays_179 : decode cX8_lays 179 = .ok (.iload 4, 2) := by decide +kernel
theorem dX8_lays_181 : decode cX8_lays 181 = .ok (.iload 7, 2) := by decide +kernel
theorem dX8_lays_183 : decode cX8_lays 183 = .ok (.iadd, 1) := by decide +kernel
theorem dX8_lays_184 : decode cX8_lays 184 = .ok (.bipush 36, 2) := by decide +kernel
theorem dX8_lays_186 : decode cX8_lays 186 = .ok (.if_icmp .le 5, 3) := by decide +kernel
theorem dX8_lays_189 : decode cX8_lays 189 = .ok (.iconst (-1), 1) := by decide +kernel
theorem dX8_lays_190 : decode cX8_lays 190 = .ok (.ireturn, 1) := by decide +kernel
theorem dX8_lays_191 : decode cX8_lays 191 = .ok (.aload_n 0, 1) := by decide +kernel
theorem dX8_lays_192 : decode cX8_lays 192 = .ok (.getfield 13, 3) := by decide +kernel
theorem dX8_lays_195 : decode cX8_lays 195 = .ok (.bipush 36, 2) := by decide +kernel
theorem dX8_lays_197 : decode cX8_lays 197 = .ok (.iload 7, 2) := by decide +kernel
theorem dX8_lays_199 : decode cX8_lays 199 = .ok (.iconst 1, 1) := by decide +kernel
theorem dX8_lays_200 : decode cX8_lays 200 = .ok (.isub, 1) := by decide +kernel
theorem dX8_lays_201 : decode cX8_lays 201 = .ok (.imul, 1) := by decide +kernel
theorem dX8_lays_202 : decode cX8_lays 202 = .ok (.iload 4, 2) := by decide +kernel
theorem dX8_lays_204 : decode cX8_lays 204 = .ok (.iadd, 1) := by decide +kernel
theorem dX8_lays_205 : decode cX8_lays 205 = .ok (.iaload, 1) := by decide +kernel
theorem dX8_lays_206 : decode cX8_lays 206 = .ok (.iload 8, 2) := by decide +kernel
theorem dX8_lays_208 : decode cX8_lays 208 = .ok (.isub, 1) := by decide +kernel
theorem dX8_lays_209 : decode cX8_lays 209 = .ok (.istore 10, 2) := by decide +kernel
theorem dX8_lays_211 : decode cX8_lays 211 = .ok (.iload 10, 2) := by decide +kernel
theorem dX8_lays_213 : decode cX8_lays 213 = .ok (.ifCond .ge 5, 3) := by decide +kernel
theorem dX8_lays_216 : decode cX8_lays 216 = .ok (.iconst (-1), 1) := by decide +kernel
theorem dX8_lays_217 : decode cX8_lays 217 = .ok (.ireturn, 1) := by decide +kernel
theorem dX8_lays_218 : decode cX8_lays 218 = .ok (.iload_n 3, 1) := by decide +kernel
theorem dX8_lays_219 : decode cX8_lays 219 = .ok (.iload 10, 2) := by decide +kernel
theorem dX8_lays_221 : decode cX8_lays 221 = .ok (.iload 10, 2) := by decide +kernel
theorem dX8_lays_223 : decode cX8_lays 223 = .ok (.imul, 1) := by decide +kernel
theorem dX8_lays_224 : decode cX8_lays 224 = .ok (.iadd, 1) := by decide +kernel
theorem dX8_lays_225 : decode cX8_lays 225 = .ok (.istore_n 3, 1) := by decide +kernel
theorem dX8_lays_226 : decode cX8_lays 226 = .ok (.bipush 7, 2) := by decide +kernel
theorem dX8_lays_228 : decode cX8_lays 228 = .ok (.aload_n 0, 1) := by decide +kernel
theorem dX8_lays_229 : decode cX8_lays 229 = .ok (.getfield 99, 3) := by decide +kernel
theorem dX8_lays_232 : decode cX8_lays 232 = .ok (.imul, 1) := by decide +kernel
theorem dX8_lays_233 : decode cX8_lays 233 = .ok (.istore 11, 2) := by decide +kernel
theorem dX8_lays_235 : decode cX8_lays 235 = .ok (.aload_n 0, 1) := by decide +kernel
theorem dX8_lays_236 : decode cX8_lays 236 = .ok (.getfield 23, 3) := by decide +kernel
theorem dX8_lays_239 : decode cX8_lays 239 = .ok (.iload 11, 2) := by decide +kernel
theorem dX8_lays_241 : decode cX8_lays 241 = .ok (.iload 6, 2) := by decide +kernel
theorem dX8_lays_243 : decode cX8_lays 243 = .ok (.iastore, 1) := by decide +kernel
theorem dX8_lays_244 : decode cX8_lays 244 = .ok (.aload_n 0, 1) := by decide +kernel
theorem dX8_lays_245 : decode cX8_lays 245 = .ok (.getfield 23, 3) := by decide +kernel
theorem dX8_lays_248 : decode cX8_lays 248 = .ok (.iload 11, 2) := by decide +kernel
theorem dX8_lays_250 : decode cX8_lays 250 = .ok (.iconst 1, 1) := by decide +kernel
theorem dX8_lays_251 : decode cX8_lays 251 = .ok (.iadd, 1) := by decide +kernel
theorem dX8_lays_252 : decode cX8_lays 252 = .ok (.iload 5, 2) := by decide +kernel
theorem dX8_lays_254 : decode cX8_lays 254 = .ok (.iload 6, 2) := by decide +kernel
theorem dX8_lays_256 : decode cX8_lays 256 = .ok (.isub, 1) := by decide +kernel
theorem dX8_lays_257 : decode cX8_lays 257 = .ok (.iastore, 1) := by decide +kernel
theorem dX8_lays_258 : decode cX8_lays 258 = .ok (.aload_n 0, 1) := by decide +kernel
theorem dX8_lays_259 : decode cX8_lays 259 = .ok (.getfield 23, 3) := by decide +kernel
theorem dX8_lays_262 : decode cX8_lays 262 = .ok (.iload 11, 2) := by decide +kernel
theorem dX8_lays_264 : decode cX8_lays 264 = .ok (.iconst 2, 1) := by decide +kernel
theorem dX8_lays_265 : decode cX8_lays 265 = .ok (.iadd, 1) := by decide +kernel
theorem dX8_lays_266 : decode cX8_lays 266 = .ok (.iload 4, 2) := by decide +kernel
theorem dX8_lays_268 : decode cX8_lays 268 = .ok (.iastore, 1) := by decide +kernel
theorem dX8_lays_269 : decode cX8_lays 269 = .ok (.aload_n 0, 1) := by decide +kernel
theorem dX8_lays_270 : decode cX8_lays 270 = .ok (.getfield 23, 3) := by decide +kernel
theorem dX8_lays_273 : decode cX8_lays 273 = .ok (.iload 11, 2) := by decide +kernel
theorem dX8_lays_275 : decode cX8_lays 275 = .ok (.iconst 3, 1) := by decide +kernel
theorem dX8_lays_276 : decode cX8_lays 276 = .ok (.iadd, 1) := by decide +kernel
theorem dX8_lays_277 : decode cX8_lays 277 = .ok (.iload 7, 2) := by decide +kernel
theorem dX8_lays_279 : decode cX8_lays 279 = .ok (.iastore, 1) := by decide +kernel
theorem dX8_lays_280 : decode cX8_lays 280 = .ok (.aload_n 0, 1) := by decide +kernel
theorem dX8_lays_281 : decode cX8_lays 281 = .ok (.getfield 23, 3) := by decide +kernel
theorem dX8_lays_284 : decode cX8_lays 284 = .ok (.iload 11, 2) := by decide +kernel
theorem dX8_lays_286 : decode cX8_lays 286 = .ok (.iconst 4, 1) := by decide +kernel
theorem dX8_lays_287 : decode cX8_lays 287 = .ok (.iadd, 1) := by decide +kernel
theorem dX8_lays_288 : decode cX8_lays 288 = .ok (.iload 8, 2) := by decide +kernel
theorem dX8_lays_290 : decode cX8_lays 290 = .ok (.iastore, 1) := by decide +kernel
theorem dX8_lays_291 : decode cX8_lays 291 = .ok (.aload_n 0, 1) := by decide +kernel
theorem dX8_lays_292 : decode cX8_lays 292 = .ok (.getfield 23, 3) := by decide +kernel
theorem dX8_lays_295 : decode cX8_lays 295 = .ok (.iload 11, 2) := by decide +kernel
theorem dX8_lays_297 : decode cX8_lays 297 = .ok (.iconst 5, 1) := by decide +kernel
theorem dX8_lays_298 : decode cX8_lays 298 = .ok (.iadd, 1) := by decide +kernel
theorem dX8_lays_299 : decode cX8_lays 299 = .ok (.aload_n 0, 1) := by decide +kernel
theorem dX8_lays_300 : decode cX8_lays 300 = .ok (.getfield 16, 3) := by decide +kernel
theorem dX8_lays_303 : decode cX8_lays 303 = .ok (.bipush 36, 2) := by decide +kernel
theorem dX8_lays_305 : decode cX8_lays 305 = .ok (.iload 7, 2) := by decide +kernel
theorem dX8_lays_307 : decode cX8_lays 307 = .ok (.iconst 1, 1) := by decide +kernel
theorem dX8_lays_308 : decode cX8_lays 308 = .ok (.isub, 1) := by decide +kernel
theorem dX8_lays_309 : decode cX8_lays 309 = .ok (.imul, 1) := by decide +kernel
theorem dX8_lays_310 : decode cX8_lays 310 = .ok (.iload 4, 2) := by decide +kernel
theorem dX8_lays_312 : decode cX8_lays 312 = .ok (.iadd, 1) := by decide +kernel
theorem dX8_lays_313 : decode cX8_lays 313 = .ok (.iaload, 1) := by decide +kernel
theorem dX8_lays_314 : decode cX8_lays 314 = .ok (.iastore, 1) := by decide +kernel
theorem dX8_lays_315 : decode cX8_lays 315 = .ok (.aload_n 0, 1) := by decide +kernel
theorem dX8_lays_316 : decode cX8_lays 316 = .ok (.getfield 23, 3) := by decide +kernel
theorem dX8_lays_319 : decode cX8_lays 319 = .ok (.iload 11, 2) := by decide +kernel
theorem dX8_lays_321 : decode cX8_lays 321 = .ok (.bipush 6, 2) := by decide +kernel
theorem dX8_lays_323 : decode cX8_lays 323 = .ok (.iadd, 1) := by decide +kernel
theorem dX8_lays_324 : decode cX8_lays 324 = .ok (.iload 10, 2) := by decide +kernel
theorem dX8_lays_326 : decode cX8_lays 326 = .ok (.iastore, 1) := by decide +kernel
theorem dX8_lays_327 : decode cX8_lays 327 = .ok (.aload_n 0, 1) := by decide +kernel
theorem dX8_lays_328 : decode cX8_lays 328 = .ok (.iload_n 1, 1) := by decide +kernel
theorem dX8_lays_329 : decode cX8_lays 329 = .ok (.aload_n 0, 1) := by decide +kernel
theorem dX8_lays_330 : decode cX8_lays 330 = .ok (.getfield 99, 3) := by decide +kernel
theorem dX8_lays_333 : decode cX8_lays 333 = .ok (.invokevirtual 114, 3) := by decide +kernel
theorem dX8_lays_336 : decode cX8_lays 336 = .ok (.aload_n 0, 1) := by decide +kernel
theorem dX8_lays_337 : decode cX8_lays 337 = .ok (.iload 6, 2) := by decide +kernel
theorem dX8_lays_339 : decode cX8_lays 339 = .ok (.iload 5, 2) := by decide +kernel
theorem dX8_lays_341 : decode cX8_lays 341 = .ok (.invokevirtual 117, 3) := by decide +kernel
theorem dX8_lays_344 : decode cX8_lays 344 = .ok (.aload_n 0, 1) := by decide +kernel
theorem dX8_lays_345 : decode cX8_lays 345 = .ok (.getfield 102, 3) := by decide +kernel
theorem dX8_lays_348 : decode cX8_lays 348 = .ok (.aload_n 0, 1) := by decide +kernel
theorem dX8_lays_349 : decode cX8_lays 349 = .ok (.getfield 7, 3) := by decide +kernel
theorem dX8_lays_352 : decode cX8_lays 352 = .ok (.bipush 81, 2) := by decide +kernel
theorem dX8_lays_354 : decode cX8_lays 354 = .ok (.iaload, 1) := by decide +kernel
theorem dX8_lays_355 : decode cX8_lays 355 = .ok (.if_icmp .le 5, 3) := by decide +kernel
theorem dX8_lays_358 : decode cX8_lays 358 = .ok (.iconst (-1), 1) := by decide +kernel
theorem dX8_lays_359 : decode cX8_lays 359 = .ok (.ireturn, 1) := by decide +kernel
theorem dX8_lays_360 : decode cX8_lays 360 = .ok (.aload_n 0, 1) := by decide +kernel
theorem dX8_lays_361 : decode cX8_lays 361 = .ok (.dup, 1) := by decide +kernel
theorem dX8_lays_362 : decode cX8_lays 362 = .ok (.getfield 99, 3) := by decide +kernel
theorem dX8_lays_365 : decode cX8_lays 365 = .ok (.iconst 1, 1) := by decide +kernel
theorem dX8_lays_366 : decode cX8_lays 366 = .ok (.iadd, 1) := by decide +kernel
theorem dX8_lays_367 : decode cX8_lays 367 = .ok (.putfield 99, 3) := by decide +kernel
theorem dX8_lays_370 : decode cX8_lays 370 = .ok (.iload 4, 2) := by decide +kernel
theorem dX8_lays_372 : decode cX8_lays 372 = .ok (.iload 7, 2) := by decide +kernel
theorem dX8_lays_374 : decode cX8_lays 374 = .ok (.aload_n 0, 1) := by decide +kernel
theorem dX8_lays_375 : decode cX8_lays 375 = .ok (.getfield 7, 3) := by decide +kernel
theorem dX8_lays_378 : decode cX8_lays 378 = .ok (.bipush 79, 2) := by decide +kernel
theorem dX8_lays_380 : decode cX8_lays 380 = .ok (.iaload, 1) := by decide +kernel
theorem dX8_lays_381 : decode cX8_lays 381 = .ok (.iadd, 1) := by decide +kernel
theorem dX8_lays_382 : decode cX8_lays 382 = .ok (.iadd, 1) := by decide +kernel
theorem dX8_lays_383 : decode cX8_lays 383 = .ok (.istore 4, 2) := by decide +kernel
theorem dX8_lays_385 : decode cX8_lays 385 = .ok (.goto (-361), 3) := by decide +kernel
theorem dX8_lays_388 : decode cX8_lays 388 = .ok (.iload_n 3, 1) := by decide +kernel
theorem dX8_lays_389 : decode cX8_lays 389 = .ok (.ireturn, 1) := by decide +kernel
theorem dX8_places_0 : decode cX8_places 0 = .ok (.aload_n 0, 1) := by decide +kernel
theorem dX8_places_1 : decode cX8_places 1 = .ok (.getfield 23, 3) := by decide +kernel
theorem dX8_places_4 : decode cX8_places 4 = .ok (.bipush 7, 2) := by decide +kernel
theorem dX8_places_6 : decode cX8_places 6 = .ok (.iload_n 2, 1) := by decide +kernel
theorem dX8_places_7 : decode cX8_places 7 = .ok (.imul, 1) := by decide +kernel
theorem dX8_places_8 : decode cX8_places 8 = .ok (.iaload, 1) := by decide +kernel
theorem dX8_places_9 : decode cX8_places 9 = .ok (.istore_n 3, 1) := by decide +kernel
theorem dX8_places_10 : decode cX8_places 10 = .ok (.aload_n 0, 1) := by decide +kernel
theorem dX8_places_11 : decode cX8_places 11 = .ok (.getfield 23, 3) := by decide +kernel
theorem dX8_places_14 : decode cX8_places 14 = .ok (.bipush 7, 2) := by decide +kernel
theorem dX8_places_16 : decode cX8_places 16 = .ok (.iload_n 2, 1) := by decide +kernel
theorem dX8_places_17 : decode cX8_places 17 = .ok (.imul, 1) := by decide +kernel
theorem dX8_places_18 : decode cX8_places 18 = .ok (.bipush 6, 2) := by decide +kernel
theorem dX8_places_20 : decode cX8_places 20 = .ok (.iadd, 1) := by decide +kernel
theorem dX8_places_21 : decode cX8_places 21 = .ok (.iaload, 1) := by decide +kernel
theorem dX8_places_22 : decode cX8_places 22 = .ok (.istore 4, 2) := by decide +kernel
theorem dX8_places_24 : decode cX8_places 24 = .ok (.aload_n 0, 1) := by decide +kernel
theorem dX8_places_25 : decode cX8_places 25 = .ok (.getfield 23, 3) := by decide +kernel
theorem dX8_places_28 : decode cX8_places 28 = .ok (.bipush 7, 2) := by decide +kernel
theorem dX8_places_30 : decode cX8_places 30 = .ok (.iload_n 2, 1) := by decide +kernel
theorem dX8_places_31 : decode cX8_places 31 = .ok (.imul, 1) := by decide +kernel
theorem dX8_places_32 : decode cX8_places 32 = .ok (.iconst 5, 1) := by decide +kernel
theorem dX8_places_33 : decode cX8_places 33 = .ok (.iadd, 1) := by decide +kernel
theorem dX8_places_34 : decode cX8_places 34 = .ok (.iaload, 1) := by decide +kernel
theorem dX8_places_35 : decode cX8_places 35 = .ok (.aload_n 0, 1) := by decide +kernel
theorem dX8_places_36 : decode cX8_places 36 = .ok (.getfield 7, 3) := by decide +kernel
theorem dX8_places_39 : decode cX8_places 39 = .ok (.bipush 80, 2) := by decide +kernel
theorem dX8_places_41 : decode cX8_places 41 = .ok (.iaload, 1) := by decide +kernel
theorem dX8_places_42 : decode cX8_places 42 = .ok (.ifCond .ne 7, 3) := by decide +kernel
theorem dX8_places_45 : decode cX8_places 45 = .ok (.iconst 0, 1) := by decide +kernel
theorem dX8_places_46 : decode cX8_places 46 = .ok (.goto 23, 3) := by decide +kernel
theorem dX8_places_49 : decode cX8_places 49 = .ok (.aload_n 0, 1) := by decide +kernel
theorem dX8_places_50 : decode cX8_places 50 = .ok (.getfield 7, 3) := by decide +kernel
theorem dX8_places_53 : decode cX8_places 53 = .ok (.bipush 80, 2) := by decide +kernel
theorem dX8_places_55 : decode cX8_places 55 = .ok (.iaload, 1) := by decide +kernel
theorem dX8_places_56 : decode cX8_places 56 = .ok (.iconst 1, 1) := by decide +kernel
theorem dX8_places_57 : decode cX8_places 57 = .ok (.if_icmp .ne 10, 3) := by decide +kernel
theorem dX8_places_60 : decode cX8_places 60 = .ok (.iload 4, 2) := by decide +kernel
theorem dX8_places_62 : decode cX8_places 62 = .ok (.iconst 2, 1) := by decide +kernel
theorem dX8_places_63 : decode cX8_places 63 = .ok (.idiv, 1) := by decide +kernel
theorem dX8_places_64 : decode cX8_places 64 = .ok (.goto 5, 3) := by decide +kernel
theorem dX8_places_67 : decode cX8_places 67 = .ok (.iload 4, 2) := by decide +kernel
theorem dX8_places_69 : decode cX8_places 69 = .ok (.iadd, 1) := by decide +kernel
theorem dX8_places_70 : decode cX8_places 70 = .ok (.istore 5, 2) := by decide +kernel
theorem dX8_places_72 : decode cX8_places 72 = .ok (.iload_n 3, 1) := by decide +kernel
theorem dX8_places_73 : decode cX8_places 73 = .ok (.istore 6, 2) := by decide +kernel
theorem dX8_places_75 : decode cX8_places 75 = .ok (.iload 6, 2) := by decide +kernel
theorem dX8_places_77 : decode cX8_places 77 = .ok (.iload_n 3, 1) := by decide +kernel
theorem dX8_places_78 : decode cX8_places 78 = .ok (.aload_n 0, 1) := by decide +kernel
theorem dX8_places_79 : decode cX8_places 79 = .ok (.getfield 23, 3) := by decide +kernel
theorem dX8_places_82 : decode cX8_places 82 = .ok (.bipush 7, 2) := by decide +kernel
theorem dX8_places_84 : decode cX8_places 84 = .ok (.iload_n 2, 1) := by decide +kernel
theorem dX8_places_85 : decode cX8_places 85 = .ok (.imul, 1) := by decide +kernel
theorem dX8_places_86 : decode cX8_places 86 = .ok (.iconst 1, 1) := by decide +kernel
theorem dX8_places_87 : decode cX8_places 87 = .ok (.iadd, 1) := by decide +kernel
theorem dX8_places_88 : decode cX8_places 88 = .ok (.iaload, 1) := by decide +kernel
theorem dX8_places_89 : decode cX8_places 89 = .ok (.iadd, 1) := by decide +kernel
theorem dX8_places_90 : decode cX8_places 90 = .ok (.if_icmp .ge 119, 3) := by decide +kernel
theorem dX8_places_93 : decode cX8_places 93 = .ok (.aload_n 0, 1) := by decide +kernel
theorem dX8_places_94 : decode cX8_places 94 = .ok (.iload 6, 2) := by decide +kernel
theorem dX8_places_96 : decode cX8_places 96 = .ok (.iload_n 1, 1) := by decide +kernel
theorem dX8_places_97 : decode cX8_places 97 = .ok (.invokevirtual 96, 3) := by decide +kernel
theorem dX8_places_100 : decode cX8_places 100 = .ok (.istore 7, 2) := by decide +kernel
theorem dX8_places_102 : decode cX8_places 102 = .ok (.iload 5, 2) := by decide +kernel
theorem dX8_places_104 : decode cX8_places 104 = .ok (.iload 6, 2) := by decide +kernel
theorem dX8_places_106 : decode cX8_places 106 = .ok (.iload_n 3, 1) := by decide +kernel
theorem dX8_places_107 : decode cX8_places 107 = .ok (.if_icmp .le 20, 3) := by decide +kernel
theorem dX8_places_110 : decode cX8_places 110 = .ok (.iload 7, 2) := by decide +kernel
theorem dX8_places_112 : decode cX8_places 112 = .ok (.aload_n 0, 1) := by decide +kernel
theorem dX8_places_113 : decode cX8_places 113 = .ok (.iload 6, 2) := by decide +kernel
theorem dX8_places_115 : decode cX8_places 115 = .ok (.iconst 1, 1) := by decide +kernel
theorem dX8_places_116 : decode cX8_places 116 = .ok (.isub, 1) := by decide +kernel
theorem dX8_places_117 : decode cX8_places 117 = .ok (.iload_n 1, 1) := by decide +kernel
theorem dX8_places_118 : decode cX8_places 118 = .ok (.invokevirtual 96, 3) := by decide +kernel
theorem dX8_places_121 : decode cX8_places 121 = .ok (.invokestatic 105, 3) := by decide +kernel
theorem dX8_places_124 : decode cX8_places 124 = .ok (.goto 4, 3) := by decide +kernel
theorem dX8_places_127 : decode cX8_places 127 = .ok (.iconst 0, 1) := by decide +kernel
theorem dX8_places_128 : decode cX8_places 128 = .ok (.iadd, 1) := by decide +kernel
theorem dX8_places_129 : decode cX8_places 129 = .ok (.istore 5, 2) := by decide +kernel
theorem dX8_places_131 : decode cX8_places 131 = .ok (.aload_n 0, 1) := by decide +kernel
theorem dX8_places_132 : decode cX8_places 132 = .ok (.getfield 26, 3) := by decide +kernel
theorem dX8_places_135 : decode cX8_places 135 = .ok (.iconst 5, 1) := by decide +kernel
theorem dX8_places_136 : decode cX8_places 136 = .ok (.iload 6, 2) := by decide +kernel
theorem dX8_places_138 : decode cX8_places 138 = .ok (.imul, 1) := by decide +kernel
theorem dX8_places_139 : decode cX8_places 139 = .ok (.iload 5, 2) := by decide +kernel
theorem dX8_places_141 : decode cX8_places 141 = .ok (.iastore, 1) := by decide +kernel
theorem dX8_places_142 : decode cX8_places 142 = .ok (.aload_n 0, 1) := by decide +kernel
theorem dX8_places_143 : decode cX8_places 143 = .ok (.getfield 26, 3) := by decide +kernel
theorem dX8_places_146 : decode cX8_places 146 = .ok (.iconst 5, 1) := by decide +kernel
theorem dX8_places_147 : decode cX8_places 147 = .ok (.iload 6, 2) := by decide +kernel
theorem dX8_places_149 : decode cX8_places 149 = .ok (.imul, 1) := by decide +kernel
theorem dX8_places_150 : decode cX8_places 150 = .ok (.iconst 1, 1) := by decide +kernel
theorem dX8_places_151 : decode cX8_places 151 = .ok (.iadd, 1) := by decide +kernel
theorem dX8_places_152 : decode cX8_places 152 = .ok (.aload_n 0, 1) := by decide +kernel
theorem dX8_places_153 : decode cX8_places 153 = .ok (.iload 6, 2) := by decide +kernel
theorem dX8_places_155 : decode cX8_places 155 = .ok (.iconst 0, 1) := by decide +kernel
theorem dX8_places_156 : decode cX8_places 156 = .ok (.invokevirtual 93, 3) := by decide +kernel
theorem dX8_places_159 : decode cX8_places 159 = .ok (.iload 7, 2) := by decide +kernel
theorem dX8_places_161 : decode cX8_places 161 = .ok (.imul, 1) := by decide +kernel
theorem dX8_places_162 : decode cX8_places 162 = .ok (.iastore, 1) := by decide +kernel
theorem dX8_places_163 : decode cX8_places 163 = .ok (.aload_n 0, 1) := by decide +kernel
theorem dX8_places_164 : decode cX8_places 164 = .ok (.getfield 26, 3) := by decide +kernel
theorem dX8_places_167 : decode cX8_places 167 = .ok (.iconst 5, 1) := by decide +kernel
theorem dX8_places_168 : decode cX8_places 168 = .ok (.iload 6, 2) := by decide +kernel
theorem dX8_places_170 : decode cX8_places 170 = .ok (.imul, 1) := by decide +kernel
theorem dX8_places_171 : decode cX8_places 171 = .ok (.iconst 2, 1) := by decide +kernel
theorem dX8_places_172 : decode cX8_places 172 = .ok (.iadd, 1) := by decide +kernel
theorem dX8_places_173 : decode cX8_places 173 = .ok (.iload 7, 2) := by decide +kernel
theorem dX8_places_175 : decode cX8_places 175 = .ok (.iastore, 1) := by decide +kernel
theorem dX8_places_176 : decode cX8_places 176 = .ok (.aload_n 0, 1) := by decide +kernel
theorem dX8_places_177 : decode cX8_places 177 = .ok (.getfield 26, 3) := by decide +kernel
theorem dX8_places_180 : decode cX8_places 180 = .ok (.iconst 5, 1) := by decide +kernel
theorem dX8_places_181 : decode cX8_places 181 = .ok (.iload 6, 2) := by decide +kernel
theorem dX8_places_183 : decode cX8_places 183 = .ok (.imul, 1) := by decide +kernel
theorem dX8_places_184 : decode cX8_places 184 = .ok (.iconst 3, 1) := by decide +kernel
theorem dX8_places_185 : decode cX8_places 185 = .ok (.iadd, 1) := by decide +kernel
theorem dX8_places_186 : decode cX8_places 186 = .ok (.iload_n 2, 1) := by decide +kernel
theorem dX8_places_187 : decode cX8_places 187 = .ok (.iastore, 1) := by decide +kernel
theorem dX8_places_188 : decode cX8_places 188 = .ok (.iload 5, 2) := by decide +kernel
theorem dX8_places_190 : decode cX8_places 190 = .ok (.aload_n 0, 1) := by decide +kernel
theorem dX8_places_191 : decode cX8_places 191 = .ok (.iload 6, 2) := by decide +kernel
theorem dX8_places_193 : decode cX8_places 193 = .ok (.iconst 0, 1) := by decide +kernel
theorem dX8_places_194 : decode cX8_places 194 = .ok (.invokevirtual 93, 3) := by decide +kernel
theorem dX8_places_197 : decode cX8_places 197 = .ok (.iload 7, 2) := by decide +kernel
theorem dX8_places_199 : decode cX8_places 199 = .ok (.imul, 1) := by decide +kernel
theorem dX8_places_200 : decode cX8_places 200 = .ok (.iadd, 1) := by decide +kernel
theorem dX8_places_201 : decode cX8_places 201 = .ok (.istore 5, 2) := by decide +kernel
theorem dX8_places_203 : decode cX8_places 203 = .ok (.iinc 6 1, 3) := by decide +kernel
theorem dX8_places_206 : decode cX8_places 206 = .ok (.goto (-131), 3) := by decide +kernel
theorem dX8_places_209 : decode cX8_places 209 = .ok (.return_, 1) := by decide +kernel
theorem dX8_hasGap_0 : decode cX8_hasGap 0 = .ok (.iload_n 1, 1) := by decide +kernel
theorem dX8_hasGap_1 : decode cX8_hasGap 1 = .ok (.aload_n 0, 1) := by decide +kernel
theorem dX8_hasGap_2 : decode cX8_hasGap 2 = .ok (.getfield 23, 3) := by decide +kernel
theorem dX8_hasGap_5 : decode cX8_hasGap 5 = .ok (.bipush 7, 2) := by decide +kernel
theorem dX8_hasGap_7 : decode cX8_hasGap 7 = .ok (.aload_n 0, 1) := by decide +kernel
theorem dX8_hasGap_8 : decode cX8_hasGap 8 = .ok (.getfield 26, 3) := by decide +kernel
theorem dX8_hasGap_11 : decode cX8_hasGap 11 = .ok (.iconst 5, 1) := by decide +kernel
theorem dX8_hasGap_12 : decode cX8_hasGap 12 = .ok (.iload_n 1, 1) := by decide +kernel
theorem dX8_hasGap_13 : decode cX8_hasGap 13 = .ok (.imul, 1) := by decide +kernel
theorem dX8_hasGap_14 : decode cX8_hasGap 14 = .ok (.iconst 3, 1) := by decide +kernel
theorem dX8_hasGap_15 : decode cX8_hasGap 15 = .ok (.iadd, 1) := by decide +kernel
theorem dX8_hasGap_16 : decode cX8_hasGap 16 = .ok (.iaload, 1) := by decide +kernel
theorem dX8_hasGap_17 : decode cX8_hasGap 17 = .ok (.imul, 1) := by decide +kernel
theorem dX8_hasGap_18 : decode cX8_hasGap 18 = .ok (.iaload, 1) := by decide +kernel
theorem dX8_hasGap_19 : decode cX8_hasGap 19 = .ok (.if_icmp .eq 7, 3) := by decide +kernel
theorem dX8_hasGap_22 : decode cX8_hasGap 22 = .ok (.iconst 1, 1) := by decide +kernel
theorem dX8_hasGap_23 : decode cX8_hasGap 23 = .ok (.goto 4, 3) := by decide +kernel
theorem dX8_hasGap_26 : decode cX8_hasGap 26 = .ok (.iconst 0, 1) := by decide +kernel
theorem dX8_hasGap_27 : decode cX8_hasGap 27 = .ok (.ireturn, 1) := by decide +kernel
theorem dX8_gapFrom_0 : decode cX8_gapFrom 0 = .ok (.aload_n 0, 1) := by decide +kernel
theorem dX8_gapFrom_1 : decode cX8_gapFrom 1 = .ok (.getfield 26, 3) := by decide +kernel
theorem dX8_gapFrom_4 : decode cX8_gapFrom 4 = .ok (.iconst 5, 1) := by decide +kernel
theorem dX8_gapFrom_5 : decode cX8_gapFrom 5 = .ok (.iload_n 1, 1) := by decide +kernel
theorem dX8_gapFrom_6 : decode cX8_gapFrom 6 = .ok (.iconst 1, 1) := by decide +kernel
theorem dX8_gapFrom_7 : decode cX8_gapFrom 7 = .ok (.isub, 1) := by decide +kernel
theorem dX8_gapFrom_8 : decode cX8_gapFrom 8 = .ok (.imul, 1) := by decide +kernel
theorem dX8_gapFrom_9 : decode cX8_gapFrom 9 = .ok (.iaload, 1) := by decide +kernel
theorem dX8_gapFrom_10 : decode cX8_gapFrom 10 = .ok (.aload_n 0, 1) := by decide +kernel
theorem dX8_gapFrom_11 : decode cX8_gapFrom 11 = .ok (.getfield 26, 3) := by decide +kernel
theorem dX8_gapFrom_14 : decode cX8_gapFrom 14 = .ok (.iconst 5, 1) := by decide +kernel
theorem dX8_gapFrom_15 : decode cX8_gapFrom 15 = .ok (.iload_n 1, 1) := by decide +kernel
theorem dX8_gapFrom_16 : decode cX8_gapFrom 16 = .ok (.iconst 1, 1) := by decide +kernel
theorem dX8_gapFrom_17 : decode cX8_gapFrom 17 = .ok (.isub, 1) := by decide +kernel
theorem dX8_gapFrom_18 : decode cX8_gapFrom 18 = .ok (.imul, 1) := by decide +kernel
theorem dX8_gapFrom_19 : decode cX8_gapFrom 19 = .ok (.iconst 1, 1) := by decide +kernel
theorem dX8_gapFrom_20 : decode cX8_gapFrom 20 = .ok (.iadd, 1) := by decide +kernel
theorem dX8_gapFrom_21 : decode cX8_gapFrom 21 = .ok (.iaload, 1) := by decide +kernel
theorem dX8_gapFrom_22 : decode cX8_gapFrom 22 = .ok (.iadd, 1) := by decide +kernel
theorem dX8_gapFrom_23 : decode cX8_gapFrom 23 = .ok (.ireturn, 1) := by decide +kernel
theorem dX8_touch_0 : decode cX8_touch 0 = .ok (.aload_n 0, 1) := by decide +kernel
theorem dX8_touch_1 : decode cX8_touch 1 = .ok (.iload_n 1, 1) := by decide +kernel
theorem dX8_touch_2 : decode cX8_touch 2 = .ok (.invokevirtual 120, 3) := by decide +kernel
theorem dX8_touch_5 : decode cX8_touch 5 = .ok (.ifCond .eq 47, 3) := by decide +kernel
theorem dX8_touch_8 : decode cX8_touch 8 = .ok (.aload_n 0, 1) := by decide +kernel
theorem dX8_touch_9 : decode cX8_touch 9 = .ok (.iload_n 2, 1) := by decide +kernel
theorem dX8_touch_10 : decode cX8_touch 10 = .ok (.invokevirtual 120, 3) := by decide +kernel
theorem dX8_touch_13 : decode cX8_touch 13 = .ok (.ifCond .eq 39, 3) := by decide +kernel
theorem dX8_touch_16 : decode cX8_touch 16 = .ok (.aload_n 0, 1) := by decide +kernel
theorem dX8_touch_17 : decode cX8_touch 17 = .ok (.iload_n 1, 1) := by decide +kernel
theorem dX8_touch_18 : decode cX8_touch 18 = .ok (.invokevirtual 123, 3) := by decide +kernel
theorem dX8_touch_21 : decode cX8_touch 21 = .ok (.aload_n 0, 1) := by decide +kernel
theorem dX8_touch_22 : decode cX8_touch 22 = .ok (.getfield 26, 3) := by decide +kernel
theorem dX8_touch_25 : decode cX8_touch 25 = .ok (.iconst 5, 1) := by decide +kernel
theorem dX8_touch_26 : decode cX8_touch 26 = .ok (.iload_n 2, 1) := by decide +kernel
theorem dX8_touch_27 : decode cX8_touch 27 = .ok (.imul, 1) := by decide +kernel
theorem dX8_touch_28 : decode cX8_touch 28 = .ok (.iaload, 1) := by decide +kernel
theorem dX8_touch_29 : decode cX8_touch 29 = .ok (.if_icmp .ge 23, 3) := by decide +kernel
theorem dX8_touch_32 : decode cX8_touch 32 = .ok (.aload_n 0, 1) := by decide +kernel
theorem dX8_touch_33 : decode cX8_touch 33 = .ok (.iload_n 2, 1) := by decide +kernel
theorem dX8_touch_34 : decode cX8_touch 34 = .ok (.invokevirtual 123, 3) := by decide +kernel
theorem dX8_touch_37 : decode cX8_touch 37 = .ok (.aload_n 0, 1) := by decide +kernel
theorem dX8_touch_38 : decode cX8_touch 38 = .ok (.getfield 26, 3) := by decide +kernel
theorem dX8_touch_41 : decode cX8_touch 41 = .ok (.iconst 5, 1) := by decide +kernel
theorem dX8_touch_42 : decode cX8_touch 42 = .ok (.iload_n 1, 1) := by decide +kernel
theorem dX8_touch_43 : decode cX8_touch 43 = .ok (.imul, 1) := by decide +kernel
theorem dX8_touch_44 : decode cX8_touch 44 = .ok (.iaload, 1) := by decide +kernel
theorem dX8_touch_45 : decode cX8_touch 45 = .ok (.if_icmp .ge 7, 3) := by decide +kernel
theorem dX8_touch_48 : decode cX8_touch 48 = .ok (.iconst 1, 1) := by decide +kernel
theorem dX8_touch_49 : decode cX8_touch 49 = .ok (.goto 4, 3) := by decide +kernel
theorem dX8_touch_52 : decode cX8_touch 52 = .ok (.iconst 0, 1) := by decide +kernel
theorem dX8_touch_53 : decode cX8_touch 53 = .ok (.ireturn, 1) := by decide +kernel
theorem dX8_chainsUp_0 : decode cX8_chainsUp 0 = .ok (.aload_n 0, 1) := by decide +kernel
theorem dX8_chainsUp_1 : decode cX8_chainsUp 1 = .ok (.getfield 99, 3) := by decide +kernel
theorem dX8_chainsUp_4 : decode cX8_chainsUp 4 = .ok (.ifCond .ne 7, 3) := by decide +kernel
theorem dX8_chainsUp_7 : decode cX8_chainsUp 7 = .ok (.iload_n 1, 1) := by decide +kernel
theorem dX8_chainsUp_8 : decode cX8_chainsUp 8 = .ok (.goto 17, 3) := by decide +kernel
theorem dX8_chainsUp_11 : decode cX8_chainsUp 11 = .ok (.aload_n 0, 1) := by decide +kernel
theorem dX8_chainsUp_12 : decode cX8_chainsUp 12 = .ok (.getfield 23, 3) := by decide +kernel
theorem dX8_chainsUp_15 : decode cX8_chainsUp 15 = .ok (.bipush 7, 2) := by decide +kernel
theorem dX8_chainsUp_17 : decode cX8_chainsUp 17 = .ok (.aload_n 0, 1) := by decide +kernel
theorem dX8_chainsUp_18 : decode cX8_chainsUp 18 = .ok (.getfield 99, 3) := by decide +kernel
theorem dX8_chainsUp_21 : decode cX8_chainsUp 21 = .ok (.iconst 1, 1) := by decide +kernel
theorem dX8_chainsUp_22 : decode cX8_chainsUp 22 = .ok (.isub, 1) := by decide +kernel
theorem dX8_chainsUp_23 : decode cX8_chainsUp 23 = .ok (.imul, 1) := by decide +kernel
theorem dX8_chainsUp_24 : decode cX8_chainsUp 24 = .ok (.iaload, 1) := by decide +kernel
theorem dX8_chainsUp_25 : decode cX8_chainsUp 25 = .ok (.istore_n 3, 1) := by decide +kernel
theorem dX8_chainsUp_26 : decode cX8_chainsUp 26 = .ok (.iload_n 1, 1) := by decide +kernel
theorem dX8_chainsUp_27 : decode cX8_chainsUp 27 = .ok (.istore 4, 2) := by decide +kernel
theorem dX8_chainsUp_29 : decode cX8_chainsUp 29 = .ok (.iload 4, 2) := by decide +kernel
theorem dX8_chainsUp_31 : decode cX8_chainsUp 31 = .ok (.iload_n 2, 1) := by decide +kernel
theorem dX8_chainsUp_32 : decode cX8_chainsUp 32 = .ok (.if_icmp .ge 142, 3) := by decide +kernel
theorem dX8_chainsUp_35 : decode cX8_chainsUp 35 = .ok (.aload_n 0, 1) := by decide +kernel
theorem dX8_chainsUp_36 : decode cX8_chainsUp 36 = .ok (.getfield 29, 3) := by decide +kernel
theorem dX8_chainsUp_39 : decode cX8_chainsUp 39 = .ok (.iload 4, 2) := by decide +kernel
theorem dX8_chainsUp_41 : decode cX8_chainsUp 41 = .ok (.aload_n 0, 1) := by decide +kernel
theorem dX8_chainsUp_42 : decode cX8_chainsUp 42 = .ok (.iload 4, 2) := by decide +kernel
theorem dX8_chainsUp_44 : decode cX8_chainsUp 44 = .ok (.invokevirtual 120, 3) := by decide +kernel
theorem dX8_chainsUp_47 : decode cX8_chainsUp 47 = .ok (.ifCond .eq 7, 3) := by decide +kernel
theorem dX8_chainsUp_50 : decode cX8_chainsUp 50 = .ok (.iconst 1, 1) := by decide +kernel
theorem dX8_chainsUp_51 : decode cX8_chainsUp 51 = .ok (.goto 4, 3) := by decide +kernel
theorem dX8_chainsUp_54 : decode cX8_chainsUp 54 = .ok (.iconst 0, 1) := by decide +kernel
theorem dX8_chainsUp_55 : decode cX8_chainsUp 55 = .ok (.iastore, 1) := by decide +kernel
theorem dX8_chainsUp_56 : decode cX8_chainsUp 56 = .ok (.iload_n 3, 1) := by decide +kernel
theorem dX8_chainsUp_57 : decode cX8_chainsUp 57 = .ok (.istore 5, 2) := by decide +kernel
theorem dX8_chainsUp_59 : decode cX8_chainsUp 59 = .ok (.iload 5, 2) := by decide +kernel
theorem dX8_chainsUp_61 : decode cX8_chainsUp 61 = .ok (.iload_n 1, 1) := by decide +kernel
theorem dX8_chainsUp_62 : decode cX8_chainsUp 62 = .ok (.if_icmp .ge 74, 3) := by decide +kernel
theorem dX8_chainsUp_65 : decode cX8_chainsUp 65 = .ok (.aload_n 0, 1) := by decide +kernel
theorem dX8_chainsUp_66 : decode cX8_chainsUp 66 = .ok (.iload 4, 2) := by decide +kernel
theorem dX8_chainsUp_68 : decode cX8_chainsUp 68 = .ok (.invokevirtual 120, 3) := by decide +kernel
theorem dX8_chainsUp_71 : decode cX8_chainsUp 71 = .ok (.ifCond .eq 65, 3) := by decide +kernel
theorem dX8_chainsUp_74 : decode cX8_chainsUp 74 = .ok (.aload_n 0, 1) := by decide +kernel
theorem dX8_chainsUp_75 : decode cX8_chainsUp 75 = .ok (.getfield 29, 3) := by decide +kernel
theorem dX8_chainsUp_78 : decode cX8_chainsUp 78 = .ok (.iload 4, 2) := by decide +kernel
theorem dX8_chainsUp_80 : decode cX8_chainsUp 80 = .ok (.aload_n 0, 1) := by decide +kernel
theorem dX8_chainsUp_81 : decode cX8_chainsUp 81 = .ok (.iload 5, 2) := by decide +kernel
theorem dX8_chainsUp_83 : decode cX8_chainsUp 83 = .ok (.iload 4, 2) := by decide +kernel
theorem dX8_chainsUp_85 : decode cX8_chainsUp 85 = .ok (.invokevirtual 126, 3) := by decide +kernel
theorem dX8_chainsUp_88 : decode cX8_chainsUp 88 = .ok (.ifCond .eq 34, 3) := by decide +kernel
theorem dX8_chainsUp_91 : decode cX8_chainsUp 91 = .ok (.aload_n 0, 1) := by decide +kernel
theorem dX8_chainsUp_92 : decode cX8_chainsUp 92 = .ok (.getfield 29, 3) := by decide +kernel
theorem dX8_chainsUp_95 : decode cX8_chainsUp 95 = .ok (.iload 5, 2) := by decide +kernel
theorem dX8_chainsUp_97 : decode cX8_chainsUp 97 = .ok (.iaload, 1) := by decide +kernel
theorem dX8_chainsUp_98 : decode cX8_chainsUp 98 = .ok (.iconst 1, 1) := by decide +kernel
theorem dX8_chainsUp_99 : decode cX8_chainsUp 99 = .ok (.iadd, 1) := by decide +kernel
theorem dX8_chainsUp_100 : decode cX8_chainsUp 100 = .ok (.aload_n 0, 1) := by decide +kernel
theorem dX8_chainsUp_101 : decode cX8_chainsUp 101 = .ok (.getfield 29, 3) := by decide +kernel
theorem dX8_chainsUp_104 : decode cX8_chainsUp 104 = .ok (.iload 4, 2) := by decide +kernel
theorem dX8_chainsUp_106 : decode cX8_chainsUp 106 = .ok (.iaload, 1) := by decide +kernel
theorem dX8_chainsUp_107 : decode cX8_chainsUp 107 = .ok (.if_icmp .le 15, 3) := by decide +kernel
theorem dX8_chainsUp_110 : decode cX8_chainsUp 110 = .ok (.aload_n 0, 1) := by decide +kernel
theorem dX8_chainsUp_111 : decode cX8_chainsUp 111 = .ok (.getfield 29, 3) := by decide +kernel
theorem dX8_chainsUp_114 : decode cX8_chainsUp 114 = .ok (.iload 5, 2) := by decide +kernel
theorem dX8_chainsUp_116 : decode cX8_chainsUp 116 = .ok (.iaload, 1) := by decide +kernel
theorem dX8_chainsUp_117 : decode cX8_chainsUp 117 = .ok (.iconst 1, 1) := by decide +kernel
theorem dX8_chainsUp_118 : decode cX8_chainsUp 118 = .ok (.iadd, 1) := by decide +kernel
theorem dX8_chainsUp_119 : decode cX8_chainsUp 119 = .ok (.goto 10, 3) := by decide +kernel
theorem dX8_chainsUp_122 : decode cX8_chainsUp 122 = .ok (.aload_n 0, 1) := by decide +kernel
theorem dX8_chainsUp_123 : decode cX8_chainsUp 123 = .ok (.getfield 29, 3) := by decide +kernel
theorem dX8_chainsUp_126 : decode cX8_chainsUp 126 = .ok (.iload 4, 2) := by decide +kernel
theorem dX8_chainsUp_128 : decode cX8_chainsUp 128 = .ok (.iaload, 1) := by decide +kernel
theorem dX8_chainsUp_129 : decode cX8_chainsUp 129 = .ok (.iastore, 1) := by decide +kernel
theorem dX8_chainsUp_130 : decode cX8_chainsUp 130 = .ok (.iinc 5 1, 3) := by decide +kernel
theorem dX8_chainsUp_133 : decode cX8_chainsUp 133 = .ok (.goto (-74), 3) := by decide +kernel
theorem dX8_chainsUp_136 : decode cX8_chainsUp 136 = .ok (.aload_n 0, 1) := by decide +kernel
theorem dX8_chainsUp_137 : decode cX8_chainsUp 137 = .ok (.aload_n 0, 1) := by decide +kernel
theorem dX8_chainsUp_138 : decode cX8_chainsUp 138 = .ok (.getfield 29, 3) := by decide +kernel
theorem dX8_chainsUp_141 : decode cX8_chainsUp 141 = .ok (.iload 4, 2) := by decide +kernel
theorem dX8_chainsUp_143 : decode cX8_chainsUp 143 = .ok (.iaload, 1) := by decide +kernel
theorem dX8_chainsUp_144 : decode cX8_chainsUp 144 = .ok (.aload_n 0, 1) := by decide +kernel
theorem dX8_chainsUp_145 : decode cX8_chainsUp 145 = .ok (.getfield 102, 3) := by decide +kernel
theorem dX8_chainsUp_148 : decode cX8_chainsUp 148 = .ok (.if_icmp .le 13, 3) := by decide +kernel
theorem dX8_chainsUp_151 : decode cX8_chainsUp 151 = .ok (.aload_n 0, 1) := by decide +kernel
theorem dX8_chainsUp_152 : decode cX8_chainsUp 152 = .ok (.getfield 29, 3) := by decide +kernel
theorem dX8_chainsUp_155 : decode cX8_chainsUp 155 = .ok (.iload 4, 2) := by decide +kernel
theorem dX8_chainsUp_157 : decode cX8_chainsUp 157 = .ok (.iaload, 1) := by decide +kernel
theorem dX8_chainsUp_158 : decode cX8_chainsUp 158 = .ok (.goto 7, 3) := by decide +kernel
theorem dX8_chainsUp_161 : decode cX8_chainsUp 161 = .ok (.aload_n 0, 1) := by decide +kernel
theorem dX8_chainsUp_162 : decode cX8_chainsUp 162 = .ok (.getfield 102, 3) := by decide +kernel
theorem dX8_chainsUp_165 : decode cX8_chainsUp 165 = .ok (.putfield 102, 3) := by decide +kernel
theorem dX8_chainsUp_168 : decode cX8_chainsUp 168 = .ok (.iinc 4 1, 3) := by decide +kernel
theorem dX8_chainsUp_171 : decode cX8_chainsUp 171 = .ok (.goto (-142), 3) := by decide +kernel
theorem dX8_chainsUp_174 : decode cX8_chainsUp 174 = .ok (.return_, 1) := by decide +kernel
theorem dX8_chains_0 : decode cX8_chains 0 = .ok (.aload_n 0, 1) := by decide +kernel
theorem dX8_chains_1 : decode cX8_chains 1 = .ok (.getfield 7, 3) := by decide +kernel
theorem dX8_chains_4 : decode cX8_chains 4 = .ok (.bipush 31, 2) := by decide +kernel
theorem dX8_chains_6 : decode cX8_chains 6 = .ok (.iaload, 1) := by decide +kernel
theorem dX8_chains_7 : decode cX8_chains 7 = .ok (.iconst 1, 1) := by decide +kernel
theorem dX8_chains_8 : decode cX8_chains 8 = .ok (.isub, 1) := by decide +kernel
theorem dX8_chains_9 : decode cX8_chains 9 = .ok (.istore_n 1, 1) := by decide +kernel
theorem dX8_chains_10 : decode cX8_chains 10 = .ok (.iload_n 1, 1) := by decide +kernel
theorem dX8_chains_11 : decode cX8_chains 11 = .ok (.ifCond .lt 178, 3) := by decide +kernel
theorem dX8_chains_14 : decode cX8_chains 14 = .ok (.aload_n 0, 1) := by decide +kernel
theorem dX8_chains_15 : decode cX8_chains 15 = .ok (.getfield 32, 3) := by decide +kernel
theorem dX8_chains_18 : decode cX8_chains 18 = .ok (.iload_n 1, 1) := by decide +kernel
theorem dX8_chains_19 : decode cX8_chains 19 = .ok (.aload_n 0, 1) := by decide +kernel
theorem dX8_chains_20 : decode cX8_chains 20 = .ok (.iload_n 1, 1) := by decide +kernel
theorem dX8_chains_21 : decode cX8_chains 21 = .ok (.invokevirtual 120, 3) := by decide +kernel
theorem dX8_chains_24 : decode cX8_chains 24 = .ok (.ifCond .eq 7, 3) := by decide +kernel
theorem dX8_chains_27 : decode cX8_chains 27 = .ok (.iconst 1, 1) := by decide +kernel
theorem dX8_chains_28 : decode cX8_chains 28 = .ok (.goto 4, 3) := by decide +kernel
theorem dX8_chains_31 : decode cX8_chains 31 = .ok (.iconst 0, 1) := by decide +kernel
theorem dX8_chains_32 : decode cX8_chains 32 = .ok (.iastore, 1) := by decide +kernel
theorem dX8_chains_33 : decode cX8_chains 33 = .ok (.iload_n 1, 1) := by decide +kernel
theorem dX8_chains_34 : decode cX8_chains 34 = .ok (.iconst 1, 1) := by decide +kernel
theorem dX8_chains_35 : decode cX8_chains 35 = .ok (.iadd, 1) := by decide +kernel
theorem dX8_chains_36 : decode cX8_chains 36 = .ok (.istore_n 2, 1) := by decide +kernel
theorem dX8_chains_37 : decode cX8_chains 37 = .ok (.iload_n 2, 1) := by decide +kernel
theorem dX8_chains_38 : decode cX8_chains 38 = .ok (.aload_n 0, 1) := by decide +kernel
theorem dX8_chains_39 : decode cX8_chains 39 = .ok (.getfield 7, 3) := by decide +kernel
theorem dX8_chains_42 : decode cX8_chains 42 = .ok (.bipush 31, 2) := by decide +kernel
theorem dX8_chains_44 : decode cX8_chains 44 = .ok (.iaload, 1) := by decide +kernel
theorem dX8_chains_45 : decode cX8_chains 45 = .ok (.if_icmp .ge 101, 3) := by decide +kernel
theorem dX8_chains_48 : decode cX8_chains 48 = .ok (.aload_n 0, 1) := by decide +kernel
theorem dX8_chains_49 : decode cX8_chains 49 = .ok (.iload_n 1, 1) := by decide +kernel
theorem dX8_chains_50 : decode cX8_chains 50 = .ok (.invokevirtual 120, 3) := by decide +kernel
theorem dX8_chains_53 : decode cX8_chains 53 = .ok (.ifCond .eq 93, 3) := by decide +kernel
theorem dX8_chains_56 : decode cX8_chains 56 = .ok (.aload_n 0, 1) := by decide +kernel
theorem dX8_chains_57 : decode cX8_chains 57 = .ok (.getfield 26, 3) := by decide +kernel
theorem dX8_chains_60 : decode cX8_chains 60 = .ok (.iconst 5, 1) := by decide +kernel
theorem dX8_chains_61 : decode cX8_chains 61 = .ok (.iload_n 2, 1) := by decide +kernel
theorem dX8_chains_62 : decode cX8_chains 62 = .ok (.imul, 1) := by decide +kernel
theorem dX8_chains_63 : decode cX8_chains 63 = .ok (.iconst 3, 1) := by decide +kernel
theorem dX8_chains_64 : decode cX8_chains 64 = .ok (.iadd, 1) := by decide +kernel
theorem dX8_chains_65 : decode cX8_chains 65 = .ok (.iaload, 1) := by decide +kernel
theorem dX8_chains_66 : decode cX8_chains 66 = .ok (.aload_n 0, 1) := by decide +kernel
theorem dX8_chains_67 : decode cX8_chains 67 = .ok (.getfield 26, 3) := by decide +kernel
theorem dX8_chains_70 : decode cX8_chains 70 = .ok (.iconst 5, 1) := by decide +kernel
theorem dX8_chains_71 : decode cX8_chains 71 = .ok (.iload_n 1, 1) := by decide +kernel
theorem dX8_chains_72 : decode cX8_chains 72 = .ok (.imul, 1) := by decide +kernel
theorem dX8_chains_73 : decode cX8_chains 73 = .ok (.iconst 3, 1) := by decide +kernel
theorem dX8_chains_74 : decode cX8_chains 74 = .ok (.iadd, 1) := by decide +kernel
theorem dX8_chains_75 : decode cX8_chains 75 = .ok (.iaload, 1) := by decide +kernel
theorem dX8_chains_76 : decode cX8_chains 76 = .ok (.iconst 1, 1) := by decide +kernel
theorem dX8_chains_77 : decode cX8_chains 77 = .ok (.iadd, 1) := by decide +kernel
theorem dX8_chains_78 : decode cX8_chains 78 = .ok (.if_icmp .ne 16, 3) := by decide +kernel
theorem dX8_chains_81 : decode cX8_chains 81 = .ok (.aload_n 0, 1) := by decide +kernel
theorem dX8_chains_82 : decode cX8_chains 82 = .ok (.iload_n 2, 1) := by decide +kernel
theorem dX8_chains_83 : decode cX8_chains 83 = .ok (.iload_n 1, 1) := by decide +kernel
theorem dX8_chains_84 : decode cX8_chains 84 = .ok (.invokevirtual 126, 3) := by decide +kernel
theorem dX8_chains_87 : decode cX8_chains 87 = .ok (.ifCond .eq 7, 3) := by decide +kernel
theorem dX8_chains_90 : decode cX8_chains 90 = .ok (.iconst 1, 1) := by decide +kernel
theorem dX8_chains_91 : decode cX8_chains 91 = .ok (.goto 4, 3) := by decide +kernel
theorem dX8_chains_94 : decode cX8_chains 94 = .ok (.iconst 0, 1) := by decide +kernel
theorem dX8_chains_95 : decode cX8_chains 95 = .ok (.istore_n 3, 1) := by decide +kernel
theorem dX8_chains_96 : decode cX8_chains 96 = .ok (.aload_n 0, 1) := by decide +kernel
theorem dX8_chains_97 : decode cX8_chains 97 = .ok (.getfield 32, 3) := by decide +kernel
theorem dX8_chains_100 : decode cX8_chains 100 = .ok (.iload_n 1, 1) := by decide +kernel
theorem dX8_chains_101 : decode cX8_chains 101 = .ok (.iload_n 3, 1) := by decide +kernel
theorem dX8_chains_102 : decode cX8_chains 102 = .ok (.ifCond .eq 31, 3) := by decide +kernel
theorem dX8_chains_105 : decode cX8_chains 105 = .ok (.aload_n 0, 1) := by decide +kernel
theorem dX8_chains_106 : decode cX8_chains 106 = .ok (.getfield 32, 3) := by decide +kernel
theorem dX8_chains_109 : decode cX8_chains 109 = .ok (.iload_n 2, 1) := by decide +kernel
theorem dX8_chains_110 : decode cX8_chains 110 = .ok (.iaload, 1) := by decide +kernel
theorem dX8_chains_111 : decode cX8_chains 111 = .ok (.iconst 1, 1) := by decide +kernel
theorem dX8_chains_112 : decode cX8_chains 112 = .ok (.iadd, 1) := by decide +kernel
theorem dX8_chains_113 : decode cX8_chains 113 = .ok (.aload_n 0, 1) := by decide +kernel
theorem dX8_chains_114 : decode cX8_chains 114 = .ok (.getfield 32, 3) := by decide +kernel
theorem dX8_chains_117 : decode cX8_chains 117 = .ok (.iload_n 1, 1) := by decide +kernel
theorem dX8_chains_118 : decode cX8_chains 118 = .ok (.iaload, 1) := by decide +kernel
theorem dX8_chains_119 : decode cX8_chains 119 = .ok (.if_icmp .le 14, 3) := by decide +kernel
theorem dX8_chains_122 : decode cX8_chains 122 = .ok (.aload_n 0, 1) := by decide +kernel
theorem dX8_chains_123 : decode cX8_chains 123 = .ok (.getfield 32, 3) := by decide +kernel
theorem dX8_chains_126 : decode cX8_chains 126 = .ok (.iload_n 2, 1) := by decide +kernel
theorem dX8_chains_127 : decode cX8_chains 127 = .ok (.iaload, 1) := by decide +kernel
theorem dX8_chains_128 : decode cX8_chains 128 = .ok (.iconst 1, 1) := by decide +kernel
theorem dX8_chains_129 : decode cX8_chains 129 = .ok (.iadd, 1) := by decide +kernel
theorem dX8_chains_130 : decode cX8_chains 130 = .ok (.goto 9, 3) := by decide +kernel
theorem dX8_chains_133 : decode cX8_chains 133 = .ok (.aload_n 0, 1) := by decide +kernel
theorem dX8_chains_134 : decode cX8_chains 134 = .ok (.getfield 32, 3) := by decide +kernel
theorem dX8_chains_137 : decode cX8_chains 137 = .ok (.iload_n 1, 1) := by decide +kernel
theorem dX8_chains_138 : decode cX8_chains 138 = .ok (.iaload, 1) := by decide +kernel
theorem dX8_chains_139 : decode cX8_chains 139 = .ok (.iastore, 1) := by decide +kernel
theorem dX8_chains_140 : decode cX8_chains 140 = .ok (.iinc 2 1, 3) := by decide +kernel
theorem dX8_chains_143 : decode cX8_chains 143 = .ok (.goto (-106), 3) := by decide +kernel
theorem dX8_chains_146 : decode cX8_chains 146 = .ok (.aload_n 0, 1) := by decide +kernel
theorem dX8_chains_147 : decode cX8_chains 147 = .ok (.getfield 26, 3) := by decide +kernel
theorem dX8_chains_150 : decode cX8_chains 150 = .ok (.iconst 5, 1) := by decide +kernel
theorem dX8_chains_151 : decode cX8_chains 151 = .ok (.iload_n 1, 1) := by decide +kernel
theorem dX8_chains_152 : decode cX8_chains 152 = .ok (.imul, 1) := by decide +kernel
theorem dX8_chains_153 : decode cX8_chains 153 = .ok (.iconst 4, 1) := by decide +kernel
theorem dX8_chains_154 : decode cX8_chains 154 = .ok (.iadd, 1) := by decide +kernel
theorem dX8_chains_155 : decode cX8_chains 155 = .ok (.aload_n 0, 1) := by decide +kernel
theorem dX8_chains_156 : decode cX8_chains 156 = .ok (.iload_n 1, 1) := by decide +kernel
theorem dX8_chains_157 : decode cX8_chains 157 = .ok (.invokevirtual 120, 3) := by decide +kernel
theorem dX8_chains_160 : decode cX8_chains 160 = .ok (.ifCond .eq 21, 3) := by decide +kernel
theorem dX8_chains_163 : decode cX8_chains 163 = .ok (.aload_n 0, 1) := by decide +kernel
theorem dX8_chains_164 : decode cX8_chains 164 = .ok (.getfield 29, 3) := by decide +kernel
theorem dX8_chains_167 : decode cX8_chains 167 = .ok (.iload_n 1, 1) := by decide +kernel
theorem dX8_chains_168 : decode cX8_chains 168 = .ok (.iaload, 1) := by decide +kernel
theorem dX8_chains_169 : decode cX8_chains 169 = .ok (.aload_n 0, 1) := by decide +kernel
theorem dX8_chains_170 : decode cX8_chains 170 = .ok (.getfield 32, 3) := by decide +kernel
theorem dX8_chains_173 : decode cX8_chains 173 = .ok (.iload_n 1, 1) := by decide +kernel
theorem dX8_chains_174 : decode cX8_chains 174 = .ok (.iaload, 1) := by decide +kernel
theorem dX8_chains_175 : decode cX8_chains 175 = .ok (.iadd, 1) := by decide +kernel
theorem dX8_chains_176 : decode cX8_chains 176 = .ok (.iconst 1, 1) := by decide +kernel
theorem dX8_chains_177 : decode cX8_chains 177 = .ok (.isub, 1) := by decide +kernel
theorem dX8_chains_178 : decode cX8_chains 178 = .ok (.goto 4, 3) := by decide +kernel
theorem dX8_chains_181 : decode cX8_chains 181 = .ok (.iconst 0, 1) := by decide +kernel
theorem dX8_chains_182 : decode cX8_chains 182 = .ok (.iastore, 1) := by decide +kernel
theorem dX8_chains_183 : decode cX8_chains 183 = .ok (.iinc 1 (-1), 3) := by decide +kernel
theorem dX8_chains_186 : decode cX8_chains 186 = .ok (.goto (-176), 3) := by decide +kernel
theorem dX8_chains_189 : decode cX8_chains 189 = .ok (.return_, 1) := by decide +kernel
theorem dX8_finds_0 : decode cX8_finds 0 = .ok (.iconst (-1), 1) := by decide +kernel
theorem dX8_finds_1 : decode cX8_finds 1 = .ok (.istore_n 2, 1) := by decide +kernel
theorem dX8_finds_2 : decode cX8_finds 2 = .ok (.aload_n 0, 1) := by decide +kernel
theorem dX8_finds_3 : decode cX8_finds 3 = .ok (.iconst 0, 1) := by decide +kernel
theorem dX8_finds_4 : decode cX8_finds 4 = .ok (.putfield 129, 3) := by decide +kernel
theorem dX8_finds_7 : decode cX8_finds 7 = .ok (.aload_n 0, 1) := by decide +kernel
theorem dX8_finds_8 : decode cX8_finds 8 = .ok (.iconst (-1), 1) := by decide +kernel
theorem dX8_finds_9 : decode cX8_finds 9 = .ok (.putfield 132, 3) := by decide +kernel
theorem dX8_finds_12 : decode cX8_finds 12 = .ok (.aload_n 0, 1) := by decide +kernel
theorem dX8_finds_13 : decode cX8_finds 13 = .ok (.iload_n 1, 1) := by decide +kernel
theorem dX8_finds_14 : decode cX8_finds 14 = .ok (.invokevirtual 135, 3) := by decide +kernel
theorem dX8_finds_17 : decode cX8_finds 17 = .ok (.istore_n 3, 1) := by decide +kernel
theorem dX8_finds_18 : decode cX8_finds 18 = .ok (.iconst 1, 1) := by decide +kernel
theorem dX8_finds_19 : decode cX8_finds 19 = .ok (.aload_n 0, 1) := by decide +kernel
theorem dX8_finds_20 : decode cX8_finds 20 = .ok (.getfield 7, 3) := by decide +kernel
theorem dX8_finds_23 : decode cX8_finds 23 = .ok (.bipush 31, 2) := by decide +kernel
theorem dX8_finds_25 : decode cX8_finds 25 = .ok (.iaload, 1) := by decide +kernel
theorem dX8_finds_26 : decode cX8_finds 26 = .ok (.iconst 1, 1) := by decide +kernel
theorem dX8_finds_27 : decode cX8_finds 27 = .ok (.isub, 1) := by decide +kernel
theorem dX8_finds_28 : decode cX8_finds 28 = .ok (.ishl, 1) := by decide +kernel
theorem dX8_finds_29 : decode cX8_finds 29 = .ok (.iconst 1, 1) := by decide +kernel
theorem dX8_finds_30 : decode cX8_finds 30 = .ok (.isub, 1) := by decide +kernel
theorem dX8_finds_31 : decode cX8_finds 31 = .ok (.istore 4, 2) := by decide +kernel
theorem dX8_finds_33 : decode cX8_finds 33 = .ok (.iload 4, 2) := by decide +kernel
theorem dX8_finds_35 : decode cX8_finds 35 = .ok (.ifCond .lt 115, 3) := by decide +kernel
theorem dX8_finds_38 : decode cX8_finds 38 = .ok (.iload_n 3, 1) := by decide +kernel
theorem dX8_finds_39 : decode cX8_finds 39 = .ok (.ifCond .eq 111, 3) := by decide +kernel
theorem dX8_finds_42 : decode cX8_finds 42 = .ok (.aload_n 0, 1) := by decide +kernel
theorem dX8_finds_43 : decode cX8_finds 43 = .ok (.iload_n 1, 1) := by decide +kernel
theorem dX8_finds_44 : decode cX8_finds 44 = .ok (.iload 4, 2) := by decide +kernel
theorem dX8_finds_46 : decode cX8_finds 46 = .ok (.invokevirtual 138, 3) := by decide +kernel
theorem dX8_finds_49 : decode cX8_finds 49 = .ok (.istore 5, 2) := by decide +kernel
theorem dX8_finds_51 : decode cX8_finds 51 = .ok (.aload_n 0, 1) := by decide +kernel
theorem dX8_finds_52 : decode cX8_finds 52 = .ok (.dup, 1) := by decide +kernel
theorem dX8_finds_53 : decode cX8_finds 53 = .ok (.getfield 129, 3) := by decide +kernel
theorem dX8_finds_56 : decode cX8_finds 56 = .ok (.iload 5, 2) := by decide +kernel
theorem dX8_finds_58 : decode cX8_finds 58 = .ok (.iconst (-1), 1) := by decide +kernel
theorem dX8_finds_59 : decode cX8_finds 59 = .ok (.if_icmp .eq 7, 3) := by decide +kernel
theorem dX8_finds_62 : decode cX8_finds 62 = .ok (.iconst 1, 1) := by decide +kernel
theorem dX8_finds_63 : decode cX8_finds 63 = .ok (.goto 4, 3) := by decide +kernel
theorem dX8_finds_66 : decode cX8_finds 66 = .ok (.iconst 0, 1) := by decide +kernel
theorem dX8_finds_67 : decode cX8_finds 67 = .ok (.iadd, 1) := by decide +kernel
theorem dX8_finds_68 : decode cX8_finds 68 = .ok (.putfield 129, 3) := by decide +kernel
theorem dX8_finds_71 : decode cX8_finds 71 = .ok (.iload 5, 2) := by decide +kernel
theorem dX8_finds_73 : decode cX8_finds 73 = .ok (.iconst (-1), 1) := by decide +kernel
theorem dX8_finds_74 : decode cX8_finds 74 = .ok (.if_icmp .ne 40, 3) := by decide +kernel
theorem dX8_finds_77 : decode cX8_finds 77 = .ok (.aload_n 0, 1) := by decide +kernel
theorem dX8_finds_78 : decode cX8_finds 78 = .ok (.getfield 111, 3) := by decide +kernel
theorem dX8_finds_81 : decode cX8_finds 81 = .ok (.aload_n 0, 1) := by decide +kernel
theorem dX8_finds_82 : decode cX8_finds 82 = .ok (.getfield 7, 3) := by decide +kernel
theorem dX8_finds_85 : decode cX8_finds 85 = .ok (.bipush 31, 2) := by decide +kernel
theorem dX8_finds_87 : decode cX8_finds 87 = .ok (.iaload, 1) := by decide +kernel
theorem dX8_finds_88 : decode cX8_finds 88 = .ok (.if_icmp .ge 26, 3) := by decide +kernel
theorem dX8_finds_91 : decode cX8_finds 91 = .ok (.iload 4, 2) := by decide +kernel
theorem dX8_finds_93 : decode cX8_finds 93 = .ok (.iconst 1, 1) := by decide +kernel
theorem dX8_finds_94 : decode cX8_finds 94 = .ok (.aload_n 0, 1) := by decide +kernel
theorem dX8_finds_95 : decode cX8_finds 95 = .ok (.getfield 7, 3) := by decide +kernel
theorem dX8_finds_98 : decode cX8_finds 98 = .ok (.bipush 31, 2) := by decide +kernel
theorem dX8_finds_100 : decode cX8_finds 100 = .ok (.iaload, 1) := by decide +kernel
theorem dX8_finds_101 : decode cX8_finds 101 = .ok (.iconst 1, 1) := by decide +kernel
theorem dX8_finds_102 : decode cX8_finds 102 = .ok (.isub, 1) := by decide +kernel
theorem dX8_finds_103 : decode cX8_finds 103 = .ok (.aload_n 0, 1) := by decide +kernel
theorem dX8_finds_104 : decode cX8_finds 104 = .ok (.getfield 111, 3) := by decide +kernel
theorem dX8_finds_107 : decode cX8_finds 107 = .ok (.isub, 1) := by decide +kernel
theorem dX8_finds_108 : decode cX8_finds 108 = .ok (.ishl, 1) := by decide +kernel
theorem dX8_finds_109 : decode cX8_finds 109 = .ok (.ineg, 1) := by decide +kernel
theorem dX8_finds_110 : decode cX8_finds 110 = .ok (.iand, 1) := by decide +kernel
theorem dX8_finds_111 : decode cX8_finds 111 = .ok (.goto 5, 3) := by decide +kernel
theorem dX8_finds_114 : decode cX8_finds 114 = .ok (.iload 4, 2) := by decide +kernel
theorem dX8_finds_116 : decode cX8_finds 116 = .ok (.istore 4, 2) := by decide +kernel
theorem dX8_finds_118 : decode cX8_finds 118 = .ok (.iload 5, 2) := by decide +kernel
theorem dX8_finds_120 : decode cX8_finds 120 = .ok (.iconst (-1), 1) := by decide +kernel
theorem dX8_finds_121 : decode cX8_finds 121 = .ok (.if_icmp .eq 23, 3) := by decide +kernel
theorem dX8_finds_124 : decode cX8_finds 124 = .ok (.iload_n 2, 1) := by decide +kernel
theorem dX8_finds_125 : decode cX8_finds 125 = .ok (.iconst (-1), 1) := by decide +kernel
theorem dX8_finds_126 : decode cX8_finds 126 = .ok (.if_icmp .eq 9, 3) := by decide +kernel
theorem dX8_finds_129 : decode cX8_finds 129 = .ok (.iload 5, 2) := by decide +kernel
theorem dX8_finds_131 : decode cX8_finds 131 = .ok (.iload_n 2, 1) := by decide +kernel
theorem dX8_finds_132 : decode cX8_finds 132 = .ok (.if_icmp .ge 12, 3) := by decide +kernel
theorem dX8_finds_135 : decode cX8_finds 135 = .ok (.iload 5, 2) := by decide +kernel
theorem dX8_finds_137 : decode cX8_finds 137 = .ok (.istore_n 2, 1) := by decide +kernel
theorem dX8_finds_138 : decode cX8_finds 138 = .ok (.aload_n 0, 1) := by decide +kernel
theorem dX8_finds_139 : decode cX8_finds 139 = .ok (.iload 4, 2) := by decide +kernel
theorem dX8_finds_141 : decode cX8_finds 141 = .ok (.putfield 132, 3) := by decide +kernel
theorem dX8_finds_144 : decode cX8_finds 144 = .ok (.iinc 4 (-1), 3) := by decide +kernel
theorem dX8_finds_147 : decode cX8_finds 147 = .ok (.goto (-114), 3) := by decide +kernel
theorem dX8_finds_150 : decode cX8_finds 150 = .ok (.iload_n 2, 1) := by decide +kernel
theorem dX8_finds_151 : decode cX8_finds 151 = .ok (.ireturn, 1) := by decide +kernel
theorem dX8_fits_0 : decode cX8_fits 0 = .ok (.aload_n 0, 1) := by decide +kernel
theorem dX8_fits_1 : decode cX8_fits 1 = .ok (.getfield 7, 3) := by decide +kernel
theorem dX8_fits_4 : decode cX8_fits 4 = .ok (.bipush 31, 2) := by decide +kernel
theorem dX8_fits_6 : decode cX8_fits 6 = .ok (.iaload, 1) := by decide +kernel
theorem dX8_fits_7 : decode cX8_fits 7 = .ok (.ifCond .ne 7, 3) := by decide +kernel
theorem dX8_fits_10 : decode cX8_fits 10 = .ok (.iconst 0, 1) := by decide +kernel
theorem dX8_fits_11 : decode cX8_fits 11 = .ok (.goto 5, 3) := by decide +kernel
theorem dX8_fits_14 : decode cX8_fits 14 = .ok (.bipush 12, 2) := by decide +kernel
theorem dX8_fits_16 : decode cX8_fits 16 = .ok (.istore_n 1, 1) := by decide +kernel
theorem dX8_fits_17 : decode cX8_fits 17 = .ok (.iload_n 1, 1) := by decide +kernel
theorem dX8_fits_18 : decode cX8_fits 18 = .ok (.ifCond .le 18, 3) := by decide +kernel
theorem dX8_fits_21 : decode cX8_fits 21 = .ok (.aload_n 0, 1) := by decide +kernel
theorem dX8_fits_22 : decode cX8_fits 22 = .ok (.iload_n 1, 1) := by decide +kernel
theorem dX8_fits_23 : decode cX8_fits 23 = .ok (.invokevirtual 141, 3) := by decide +kernel
theorem dX8_fits_26 : decode cX8_fits 26 = .ok (.iconst (-1), 1) := by decide +kernel
theorem dX8_fits_27 : decode cX8_fits 27 = .ok (.if_icmp .ne 9, 3) := by decide +kernel
theorem dX8_fits_30 : decode cX8_fits 30 = .ok (.iinc 1 (-1), 3) := by decide +kernel
theorem dX8_fits_33 : decode cX8_fits 33 = .ok (.goto (-16), 3) := by decide +kernel
theorem dX8_fits_36 : decode cX8_fits 36 = .ok (.iload_n 1, 1) := by decide +kernel
theorem dX8_fits_37 : decode cX8_fits 37 = .ok (.ifCond .le 7, 3) := by decide +kernel
theorem dX8_fits_40 : decode cX8_fits 40 = .ok (.iload_n 1, 1) := by decide +kernel
theorem dX8_fits_41 : decode cX8_fits 41 = .ok (.goto 4, 3) := by decide +kernel
theorem dX8_fits_44 : decode cX8_fits 44 = .ok (.iconst (-1), 1) := by decide +kernel
theorem dX8_fits_45 : decode cX8_fits 45 = .ok (.ireturn, 1) := by decide +kernel
theorem dX8_cost_0 : decode cX8_cost 0 = .ok (.iload_n 1, 1) := by decide +kernel
theorem dX8_cost_1 : decode cX8_cost 1 = .ok (.iconst 1, 1) := by decide +kernel
theorem dX8_cost_2 : decode cX8_cost 2 = .ok (.bipush 12, 2) := by decide +kernel
theorem dX8_cost_4 : decode cX8_cost 4 = .ok (.invokestatic 53, 3) := by decide +kernel
theorem dX8_cost_7 : decode cX8_cost 7 = .ok (.ifCond .ne 6, 3) := by decide +kernel
theorem dX8_cost_10 : decode cX8_cost 10 = .ok (.bipush (-3), 2) := by decide +kernel
theorem dX8_cost_12 : decode cX8_cost 12 = .ok (.ireturn, 1) := by decide +kernel
theorem dX8_cost_13 : decode cX8_cost 13 = .ok (.aload_n 0, 1) := by decide +kernel
theorem dX8_cost_14 : decode cX8_cost 14 = .ok (.invokevirtual 83, 3) := by decide +kernel
theorem dX8_cost_17 : decode cX8_cost 17 = .ok (.aload_n 0, 1) := by decide +kernel
theorem dX8_cost_18 : decode cX8_cost 18 = .ok (.getfield 7, 3) := by decide +kernel
theorem dX8_cost_21 : decode cX8_cost 21 = .ok (.bipush 31, 2) := by decide +kernel
theorem dX8_cost_23 : decode cX8_cost 23 = .ok (.iaload, 1) := by decide +kernel
theorem dX8_cost_24 : decode cX8_cost 24 = .ok (.ifCond .ne 7, 3) := by decide +kernel
theorem dX8_cost_27 : decode cX8_cost 27 = .ok (.iconst (-1), 1) := by decide +kernel
theorem dX8_cost_28 : decode cX8_cost 28 = .ok (.goto 8, 3) := by decide +kernel
theorem dX8_cost_31 : decode cX8_cost 31 = .ok (.aload_n 0, 1) := by decide +kernel
theorem dX8_cost_32 : decode cX8_cost 32 = .ok (.iload_n 1, 1) := by decide +kernel
theorem dX8_cost_33 : decode cX8_cost 33 = .ok (.invokevirtual 141, 3) := by decide +kernel
theorem dX8_cost_36 : decode cX8_cost 36 = .ok (.ireturn, 1) := by decide +kernel
theorem dX8_fit_0 : decode cX8_fit 0 = .ok (.aload_n 0, 1) := by decide +kernel
theorem dX8_fit_1 : decode cX8_fit 1 = .ok (.invokevirtual 83, 3) := by decide +kernel
theorem dX8_fit_4 : decode cX8_fit 4 = .ok (.aload_n 0, 1) := by decide +kernel
theorem dX8_fit_5 : decode cX8_fit 5 = .ok (.invokevirtual 144, 3) := by decide +kernel
theorem dX8_fit_8 : decode cX8_fit 8 = .ok (.ireturn, 1) := by decide +kernel
theorem dX8_allowed_0 : decode cX8_allowed 0 = .ok (.iload_n 1, 1) := by decide +kernel
theorem dX8_allowed_1 : decode cX8_allowed 1 = .ok (.iconst 1, 1) := by decide +kernel
theorem dX8_allowed_2 : decode cX8_allowed 2 = .ok (.bipush 12, 2) := by decide +kernel
theorem dX8_allowed_4 : decode cX8_allowed 4 = .ok (.invokestatic 53, 3) := by decide +kernel
theorem dX8_allowed_7 : decode cX8_allowed 7 = .ok (.ifCond .ne 6, 3) := by decide +kernel
theorem dX8_allowed_10 : decode cX8_allowed 10 = .ok (.bipush (-3), 2) := by decide +kernel
theorem dX8_allowed_12 : decode cX8_allowed 12 = .ok (.ireturn, 1) := by decide +kernel
theorem dX8_allowed_13 : decode cX8_allowed 13 = .ok (.aload_n 0, 1) := by decide +kernel
theorem dX8_allowed_14 : decode cX8_allowed 14 = .ok (.invokevirtual 83, 3) := by decide +kernel
theorem dX8_allowed_17 : decode cX8_allowed 17 = .ok (.aload_n 0, 1) := by decide +kernel
theorem dX8_allowed_18 : decode cX8_allowed 18 = .ok (.getfield 7, 3) := by decide +kernel
theorem dX8_allowed_21 : decode cX8_allowed 21 = .ok (.bipush 31, 2) := by decide +kernel
theorem dX8_allowed_23 : decode cX8_allowed 23 = .ok (.iaload, 1) := by decide +kernel
theorem dX8_allowed_24 : decode cX8_allowed 24 = .ok (.ifCond .ne 7, 3) := by decide +kernel
theorem dX8_allowed_27 : decode cX8_allowed 27 = .ok (.iconst (-1), 1) := by decide +kernel
theorem dX8_allowed_28 : decode cX8_allowed 28 = .ok (.goto 8, 3) := by decide +kernel
theorem dX8_allowed_31 : decode cX8_allowed 31 = .ok (.aload_n 0, 1) := by decide +kernel
theorem dX8_allowed_32 : decode cX8_allowed 32 = .ok (.iload_n 1, 1) := by decide +kernel
theorem dX8_allowed_33 : decode cX8_allowed 33 = .ok (.invokevirtual 141, 3) := by decide +kernel
theorem dX8_allowed_36 : decode cX8_allowed 36 = .ok (.istore_n 2, 1) := by decide +kernel
theorem dX8_allowed_37 : decode cX8_allowed 37 = .ok (.aload_n 0, 1) := by decide +kernel
theorem dX8_allowed_38 : decode cX8_allowed 38 = .ok (.getfield 7, 3) := by decide +kernel
theorem dX8_allowed_41 : decode cX8_allowed 41 = .ok (.bipush 31, 2) := by decide +kernel
theorem dX8_allowed_43 : decode cX8_allowed 43 = .ok (.iaload, 1) := by decide +kernel
theorem dX8_allowed_44 : decode cX8_allowed 44 = .ok (.ifCond .ne 7, 3) := by decide +kernel
theorem dX8_allowed_47 : decode cX8_allowed 47 = .ok (.iconst 0, 1) := by decide +kernel
theorem dX8_allowed_48 : decode cX8_allowed 48 = .ok (.goto 7, 3) := by decide +kernel
theorem dX8_allowed_51 : decode cX8_allowed 51 = .ok (.aload_n 0, 1) := by decide +kernel
theorem dX8_allowed_52 : decode cX8_allowed 52 = .ok (.getfield 129, 3) := by decide +kernel
theorem dX8_allowed_55 : decode cX8_allowed 55 = .ok (.ireturn, 1) := by decide +kernel
theorem dX8_take_0 : decode cX8_take 0 = .ok (.iload_n 1, 1) := by decide +kernel
theorem dX8_take_1 : decode cX8_take 1 = .ok (.iconst 0, 1) := by decide +kernel
theorem dX8_take_2 : decode cX8_take 2 = .ok (.bipush 12, 2) := by decide +kernel
theorem dX8_take_4 : decode cX8_take 4 = .ok (.invokestatic 53, 3) := by decide +kernel
theorem dX8_take_7 : decode cX8_take 7 = .ok (.ifCond .ne 6, 3) := by decide +kernel
theorem dX8_take_10 : decode cX8_take 10 = .ok (.bipush (-3), 2) := by decide +kernel
theorem dX8_take_12 : decode cX8_take 12 = .ok (.ireturn, 1) := by decide +kernel
theorem dX8_take_13 : decode cX8_take 13 = .ok (.aload_n 0, 1) := by decide +kernel
theorem dX8_take_14 : decode cX8_take 14 = .ok (.invokevirtual 68, 3) := by decide +kernel
theorem dX8_take_17 : decode cX8_take 17 = .ok (.aload_n 0, 1) := by decide +kernel
theorem dX8_take_18 : decode cX8_take 18 = .ok (.invokevirtual 83, 3) := by decide +kernel
theorem dX8_take_21 : decode cX8_take 21 = .ok (.iload_n 1, 1) := by decide +kernel
theorem dX8_take_22 : decode cX8_take 22 = .ok (.ifCond .ne 10, 3) := by decide +kernel
theorem dX8_take_25 : decode cX8_take 25 = .ok (.aload_n 0, 1) := by decide +kernel
theorem dX8_take_26 : decode cX8_take 26 = .ok (.invokevirtual 144, 3) := by decide +kernel
theorem dX8_take_29 : decode cX8_take 29 = .ok (.goto 4, 3) := by decide +kernel
theorem dX8_take_32 : decode cX8_take 32 = .ok (.iload_n 1, 1) := by decide +kernel
theorem dX8_take_33 : decode cX8_take 33 = .ok (.istore_n 2, 1) := by decide +kernel
theorem dX8_take_34 : decode cX8_take 34 = .ok (.iload_n 2, 1) := by decide +kernel
theorem dX8_take_35 : decode cX8_take 35 = .ok (.iconst (-1), 1) := by decide +kernel
theorem dX8_take_36 : decode cX8_take 36 = .ok (.if_icmp .eq 13, 3) := by decide +kernel
theorem dX8_take_39 : decode cX8_take 39 = .ok (.aload_n 0, 1) := by decide +kernel
theorem dX8_take_40 : decode cX8_take 40 = .ok (.getfield 7, 3) := by decide +kernel
theorem dX8_take_43 : decode cX8_take 43 = .ok (.bipush 31, 2) := by decide +kernel
theorem dX8_take_45 : decode cX8_take 45 = .ok (.iaload, 1) := by decide +kernel
theorem dX8_take_46 : decode cX8_take 46 = .ok (.ifCond .ne 7, 3) := by decide +kernel
theorem dX8_take_49 : decode cX8_take 49 = .ok (.iconst (-1), 1) := by decide +kernel
theorem dX8_take_50 : decode cX8_take 50 = .ok (.goto 8, 3) := by decide +kernel
theorem dX8_take_53 : decode cX8_take 53 = .ok (.aload_n 0, 1) := by decide +kernel
theorem dX8_take_54 : decode cX8_take 54 = .ok (.iload_n 2, 1) := by decide +kernel
theorem dX8_take_55 : decode cX8_take 55 = .ok (.invokevirtual 141, 3) := by decide +kernel
theorem dX8_take_58 : decode cX8_take 58 = .ok (.istore_n 3, 1) := by decide +kernel
theorem dX8_take_59 : decode cX8_take 59 = .ok (.iload_n 3, 1) := by decide +kernel
theorem dX8_take_60 : decode cX8_take 60 = .ok (.iconst (-1), 1) := by decide +kernel
theorem dX8_take_61 : decode cX8_take 61 = .ok (.if_icmp .ne 5, 3) := by decide +kernel
theorem dX8_take_64 : decode cX8_take 64 = .ok (.iconst (-1), 1) := by decide +kernel
theorem dX8_take_65 : decode cX8_take 65 = .ok (.ireturn, 1) := by decide +kernel
theorem dX8_take_66 : decode cX8_take 66 = .ok (.aload_n 0, 1) := by decide +kernel
theorem dX8_take_67 : decode cX8_take 67 = .ok (.iload_n 2, 1) := by decide +kernel
theorem dX8_take_68 : decode cX8_take 68 = .ok (.aload_n 0, 1) := by decide +kernel
theorem dX8_take_69 : decode cX8_take 69 = .ok (.getfield 132, 3) := by decide +kernel
theorem dX8_take_72 : decode cX8_take 72 = .ok (.invokevirtual 138, 3) := by decide +kernel
theorem dX8_take_75 : decode cX8_take 75 = .ok (.istore_n 3, 1) := by decide +kernel
theorem dX8_take_76 : decode cX8_take 76 = .ok (.aload_n 0, 1) := by decide +kernel
theorem dX8_take_77 : decode cX8_take 77 = .ok (.invokevirtual 147, 3) := by decide +kernel
theorem dX8_take_80 : decode cX8_take 80 = .ok (.aload_n 0, 1) := by decide +kernel
theorem dX8_take_81 : decode cX8_take 81 = .ok (.getfield 7, 3) := by decide +kernel
theorem dX8_take_84 : decode cX8_take 84 = .ok (.bipush 82, 2) := by decide +kernel
theorem dX8_take_86 : decode cX8_take 86 = .ok (.iconst 1, 1) := by decide +kernel
theorem dX8_take_87 : decode cX8_take 87 = .ok (.iastore, 1) := by decide +kernel
theorem dX8_take_88 : decode cX8_take 88 = .ok (.aload_n 0, 1) := by decide +kernel
theorem dX8_take_89 : decode cX8_take 89 = .ok (.getfield 7, 3) := by decide +kernel
theorem dX8_take_92 : decode cX8_take 92 = .ok (.bipush 83, 2) := by decide +kernel
theorem dX8_take_94 : decode cX8_take 94 = .ok (.iload_n 2, 1) := by decide +kernel
theorem dX8_take_95 : decode cX8_take 95 = .ok (.iastore, 1) := by decide +kernel
theorem dX8_take_96 : decode cX8_take 96 = .ok (.aload_n 0, 1) := by decide +kernel
theorem dX8_take_97 : decode cX8_take 97 = .ok (.getfield 7, 3) := by decide +kernel
theorem dX8_take_100 : decode cX8_take 100 = .ok (.bipush 84, 2) := by decide +kernel
theorem dX8_take_102 : decode cX8_take 102 = .ok (.aload_n 0, 1) := by decide +kernel
theorem dX8_take_103 : decode cX8_take 103 = .ok (.getfield 99, 3) := by decide +kernel
theorem dX8_take_106 : decode cX8_take 106 = .ok (.iastore, 1) := by decide +kernel
theorem dX8_take_107 : decode cX8_take 107 = .ok (.aload_n 0, 1) := by decide +kernel
theorem dX8_take_108 : decode cX8_take 108 = .ok (.getfield 7, 3) := by decide +kernel
theorem dX8_take_111 : decode cX8_take 111 = .ok (.bipush 85, 2) := by decide +kernel
theorem dX8_take_113 : decode cX8_take 113 = .ok (.iload_n 3, 1) := by decide +kernel
theorem dX8_take_114 : decode cX8_take 114 = .ok (.iastore, 1) := by decide +kernel
theorem dX8_take_115 : decode cX8_take 115 = .ok (.aload_n 0, 1) := by decide +kernel
theorem dX8_take_116 : decode cX8_take 116 = .ok (.getfield 7, 3) := by decide +kernel
theorem dX8_take_119 : decode cX8_take 119 = .ok (.bipush 86, 2) := by decide +kernel
theorem dX8_take_121 : decode cX8_take 121 = .ok (.aload_n 0, 1) := by decide +kernel
theorem dX8_take_122 : decode cX8_take 122 = .ok (.getfield 102, 3) := by decide +kernel
theorem dX8_take_125 : decode cX8_take 125 = .ok (.iastore, 1) := by decide +kernel
theorem dX8_take_126 : decode cX8_take 126 = .ok (.aload_n 0, 1) := by decide +kernel
theorem dX8_take_127 : decode cX8_take 127 = .ok (.getfield 7, 3) := by decide +kernel
theorem dX8_take_130 : decode cX8_take 130 = .ok (.bipush 87, 2) := by decide +kernel
theorem dX8_take_132 : decode cX8_take 132 = .ok (.aload_n 0, 1) := by decide +kernel
theorem dX8_take_133 : decode cX8_take 133 = .ok (.getfield 23, 3) := by decide +kernel
theorem dX8_take_136 : decode cX8_take 136 = .ok (.bipush 7, 2) := by decide +kernel
theorem dX8_take_138 : decode cX8_take 138 = .ok (.aload_n 0, 1) := by decide +kernel
theorem dX8_take_139 : decode cX8_take 139 = .ok (.getfield 99, 3) := by decide +kernel
theorem dX8_take_142 : decode cX8_take 142 = .ok (.iconst 1, 1) := by decide +kernel
theorem dX8_take_143 : decode cX8_take 143 = .ok (.isub, 1) := by decide +kernel
theorem dX8_take_144 : decode cX8_take 144 = .ok (.imul, 1) := by decide +kernel
theorem dX8_take_145 : decode cX8_take 145 = .ok (.iconst 2, 1) := by decide +kernel
theorem dX8_take_146 : decode cX8_take 146 = .ok (.iadd, 1) := by decide +kernel
theorem dX8_take_147 : decode cX8_take 147 = .ok (.iaload, 1) := by decide +kernel
theorem dX8_take_148 : decode cX8_take 148 = .ok (.aload_n 0, 1) := by decide +kernel
theorem dX8_take_149 : decode cX8_take 149 = .ok (.getfield 23, 3) := by decide +kernel
theorem dX8_take_152 : decode cX8_take 152 = .ok (.bipush 7, 2) := by decide +kernel
theorem dX8_take_154 : decode cX8_take 154 = .ok (.aload_n 0, 1) := by decide +kernel
theorem dX8_take_155 : decode cX8_take 155 = .ok (.getfield 99, 3) := by decide +kernel
theorem dX8_take_158 : decode cX8_take 158 = .ok (.iconst 1, 1) := by decide +kernel
theorem dX8_take_159 : decode cX8_take 159 = .ok (.isub, 1) := by decide +kernel
theorem dX8_take_160 : decode cX8_take 160 = .ok (.imul, 1) := by decide +kernel
theorem dX8_take_161 : decode cX8_take 161 = .ok (.iconst 3, 1) := by decide +kernel
theorem dX8_take_162 : decode cX8_take 162 = .ok (.iadd, 1) := by decide +kernel
theorem dX8_take_163 : decode cX8_take 163 = .ok (.iaload, 1) := by decide +kernel
theorem dX8_take_164 : decode cX8_take 164 = .ok (.iadd, 1) := by decide +kernel
theorem dX8_take_165 : decode cX8_take 165 = .ok (.iastore, 1) := by decide +kernel
theorem dX8_take_166 : decode cX8_take 166 = .ok (.iconst 0, 1) := by decide +kernel
theorem dX8_take_167 : decode cX8_take 167 = .ok (.istore 4, 2) := by decide +kernel
theorem dX8_take_169 : decode cX8_take 169 = .ok (.iload 4, 2) := by decide +kernel
theorem dX8_take_171 : decode cX8_take 171 = .ok (.bipush 7, 2) := by decide +kernel
theorem dX8_take_173 : decode cX8_take 173 = .ok (.aload_n 0, 1) := by decide +kernel
theorem dX8_take_174 : decode cX8_take 174 = .ok (.getfield 99, 3) := by decide +kernel
theorem dX8_take_177 : decode cX8_take 177 = .ok (.imul, 1) := by decide +kernel
theorem dX8_take_178 : decode cX8_take 178 = .ok (.if_icmp .ge 26, 3) := by decide +kernel
theorem dX8_take_181 : decode cX8_take 181 = .ok (.aload_n 0, 1) := by decide +kernel
theorem dX8_take_182 : decode cX8_take 182 = .ok (.getfield 7, 3) := by decide +kernel
theorem dX8_take_185 : decode cX8_take 185 = .ok (.bipush 88, 2) := by decide +kernel
theorem dX8_take_187 : decode cX8_take 187 = .ok (.iload 4, 2) := by decide +kernel
theorem dX8_take_189 : decode cX8_take 189 = .ok (.iadd, 1) := by decide +kernel
theorem dX8_take_190 : decode cX8_take 190 = .ok (.aload_n 0, 1) := by decide +kernel
theorem dX8_take_191 : decode cX8_take 191 = .ok (.getfield 23, 3) := by decide +kernel
theorem dX8_take_194 : decode cX8_take 194 = .ok (.iload 4, 2) := by decide +kernel
theorem dX8_take_196 : decode cX8_take 196 = .ok (.iaload, 1) := by decide +kernel
theorem dX8_take_197 : decode cX8_take 197 = .ok (.iastore, 1) := by decide +kernel
theorem dX8_take_198 : decode cX8_take 198 = .ok (.iinc 4 1, 3) := by decide +kernel
theorem dX8_take_201 : decode cX8_take 201 = .ok (.goto (-32), 3) := by decide +kernel
theorem dX8_take_204 : decode cX8_take 204 = .ok (.iconst 0, 1) := by decide +kernel
theorem dX8_take_205 : decode cX8_take 205 = .ok (.istore 4, 2) := by decide +kernel
theorem dX8_take_207 : decode cX8_take 207 = .ok (.iload 4, 2) := by decide +kernel
theorem dX8_take_209 : decode cX8_take 209 = .ok (.iconst 5, 1) := by decide +kernel
theorem dX8_take_210 : decode cX8_take 210 = .ok (.aload_n 0, 1) := by decide +kernel
theorem dX8_take_211 : decode cX8_take 211 = .ok (.getfield 7, 3) := by decide +kernel
theorem dX8_take_214 : decode cX8_take 214 = .ok (.bipush 31, 2) := by decide +kernel
theorem dX8_take_216 : decode cX8_take 216 = .ok (.iaload, 1) := by decide +kernel
theorem dX8_take_217 : decode cX8_take 217 = .ok (.imul, 1) := by decide +kernel
theorem dX8_take_218 : decode cX8_take 218 = .ok (.if_icmp .ge 27, 3) := by decide +kernel
theorem dX8_take_221 : decode cX8_take 221 = .ok (.aload_n 0, 1) := by decide +kernel
theorem dX8_take_222 : decode cX8_take 222 = .ok (.getfield 7, 3) := by decide +kernel
theorem dX8_take_225 : decode cX8_take 225 = .ok (.sipush 186, 3) := by decide +kernel
theorem dX8_take_228 : decode cX8_take 228 = .ok (.iload 4, 2) := by decide +kernel
theorem dX8_take_230 : decode cX8_take 230 = .ok (.iadd, 1) := by decide +kernel
theorem dX8_take_231 : decode cX8_take 231 = .ok (.aload_n 0, 1) := by decide +kernel
theorem dX8_take_232 : decode cX8_take 232 = .ok (.getfield 26, 3) := by decide +kernel
theorem dX8_take_235 : decode cX8_take 235 = .ok (.iload 4, 2) := by decide +kernel
theorem dX8_take_237 : decode cX8_take 237 = .ok (.iaload, 1) := by decide +kernel
theorem dX8_take_238 : decode cX8_take 238 = .ok (.iastore, 1) := by decide +kernel
theorem dX8_take_239 : decode cX8_take 239 = .ok (.iinc 4 1, 3) := by decide +kernel
theorem dX8_take_242 : decode cX8_take 242 = .ok (.goto (-35), 3) := by decide +kernel
theorem dX8_take_245 : decode cX8_take 245 = .ok (.aload_n 0, 1) := by decide +kernel
theorem dX8_take_246 : decode cX8_take 246 = .ok (.getfield 7, 3) := by decide +kernel
theorem dX8_take_249 : decode cX8_take 249 = .ok (.sipush 256, 3) := by decide +kernel
theorem dX8_take_252 : decode cX8_take 252 = .ok (.aload_n 0, 1) := by decide +kernel
theorem dX8_take_253 : decode cX8_take 253 = .ok (.getfield 7, 3) := by decide +kernel
theorem dX8_take_256 : decode cX8_take 256 = .ok (.bipush 31, 2) := by decide +kernel
theorem dX8_take_258 : decode cX8_take 258 = .ok (.iaload, 1) := by decide +kernel
theorem dX8_take_259 : decode cX8_take 259 = .ok (.iastore, 1) := by decide +kernel
theorem dX8_take_260 : decode cX8_take 260 = .ok (.iload_n 3, 1) := by decide +kernel
theorem dX8_take_261 : decode cX8_take 261 = .ok (.ireturn, 1) := by decide +kernel
theorem dX8_widestStep_0 : decode cX8_widestStep 0 = .ok (.iload_n 1, 1) := by decide +kernel
theorem dX8_widestStep_1 : decode cX8_widestStep 1 = .ok (.iconst 1, 1) := by decide +kernel
theorem dX8_widestStep_2 : decode cX8_widestStep 2 = .ok (.bipush 12, 2) := by decide +kernel
theorem dX8_widestStep_4 : decode cX8_widestStep 4 = .ok (.invokestatic 53, 3) := by decide +kernel
theorem dX8_widestStep_7 : decode cX8_widestStep 7 = .ok (.ifCond .ne 6, 3) := by decide +kernel
theorem dX8_widestStep_10 : decode cX8_widestStep 10 = .ok (.bipush (-3), 2) := by decide +kernel
theorem dX8_widestStep_12 : decode cX8_widestStep 12 = .ok (.ireturn, 1) := by decide +kernel
theorem dX8_widestStep_13 : decode cX8_widestStep 13 = .ok (.aload_n 0, 1) := by decide +kernel
theorem dX8_widestStep_14 : decode cX8_widestStep 14 = .ok (.invokevirtual 83, 3) := by decide +kernel
theorem dX8_widestStep_17 : decode cX8_widestStep 17 = .ok (.aload_n 0, 1) := by decide +kernel
theorem dX8_widestStep_18 : decode cX8_widestStep 18 = .ok (.getfield 7, 3) := by decide +kernel
theorem dX8_widestStep_21 : decode cX8_widestStep 21 = .ok (.bipush 74, 2) := by decide +kernel
theorem dX8_widestStep_23 : decode cX8_widestStep 23 = .ok (.iaload, 1) := by decide +kernel
theorem dX8_widestStep_24 : decode cX8_widestStep 24 = .ok (.istore_n 2, 1) := by decide +kernel
theorem dX8_widestStep_25 : decode cX8_widestStep 25 = .ok (.aload_n 0, 1) := by decide +kernel
theorem dX8_widestStep_26 : decode cX8_widestStep 26 = .ok (.getfield 7, 3) := by decide +kernel
theorem dX8_widestStep_29 : decode cX8_widestStep 29 = .ok (.bipush 31, 2) := by decide +kernel
theorem dX8_widestStep_31 : decode cX8_widestStep 31 = .ok (.iaload, 1) := by decide +kernel
theorem dX8_widestStep_32 : decode cX8_widestStep 32 = .ok (.ifCond .ne 7, 3) := by decide +kernel
theorem dX8_widestStep_35 : decode cX8_widestStep 35 = .ok (.iconst (-1), 1) := by decide +kernel
theorem dX8_widestStep_36 : decode cX8_widestStep 36 = .ok (.goto 4, 3) := by decide +kernel
theorem dX8_widestStep_39 : decode cX8_widestStep 39 = .ok (.iconst 4, 1) := by decide +kernel
theorem dX8_widestStep_40 : decode cX8_widestStep 40 = .ok (.istore_n 3, 1) := by decide +kernel
theorem dX8_widestStep_41 : decode cX8_widestStep 41 = .ok (.iload_n 3, 1) := by decide +kernel
theorem dX8_widestStep_42 : decode cX8_widestStep 42 = .ok (.ifCond .lt 7, 3) := by decide +kernel
theorem dX8_widestStep_45 : decode cX8_widestStep 45 = .ok (.iconst 1, 1) := by decide +kernel
theorem dX8_widestStep_46 : decode cX8_widestStep 46 = .ok (.goto 4, 3) := by decide +kernel
theorem dX8_widestStep_49 : decode cX8_widestStep 49 = .ok (.iconst 0, 1) := by decide +kernel
theorem dX8_widestStep_50 : decode cX8_widestStep 50 = .ok (.istore 4, 2) := by decide +kernel
theorem dX8_widestStep_52 : decode cX8_widestStep 52 = .ok (.iload 4, 2) := by decide +kernel
theorem dX8_widestStep_54 : decode cX8_widestStep 54 = .ok (.ifCond .eq 59, 3) := by decide +kernel
theorem dX8_widestStep_57 : decode cX8_widestStep 57 = .ok (.aload_n 0, 1) := by decide +kernel
theorem dX8_widestStep_58 : decode cX8_widestStep 58 = .ok (.getfield 7, 3) := by decide +kernel
theorem dX8_widestStep_61 : decode cX8_widestStep 61 = .ok (.bipush 74, 2) := by decide +kernel
theorem dX8_widestStep_63 : decode cX8_widestStep 63 = .ok (.iload_n 3, 1) := by decide +kernel
theorem dX8_widestStep_64 : decode cX8_widestStep 64 = .ok (.iastore, 1) := by decide +kernel
theorem dX8_widestStep_65 : decode cX8_widestStep 65 = .ok (.aload_n 0, 1) := by decide +kernel
theorem dX8_widestStep_66 : decode cX8_widestStep 66 = .ok (.iload_n 1, 1) := by decide +kernel
theorem dX8_widestStep_67 : decode cX8_widestStep 67 = .ok (.invokevirtual 141, 3) := by decide +kernel
theorem dX8_widestStep_70 : decode cX8_widestStep 70 = .ok (.iconst (-1), 1) := by decide +kernel
theorem dX8_widestStep_71 : decode cX8_widestStep 71 = .ok (.if_icmp .ne 7, 3) := by decide +kernel
theorem dX8_widestStep_74 : decode cX8_widestStep 74 = .ok (.iconst 1, 1) := by decide +kernel
theorem dX8_widestStep_75 : decode cX8_widestStep 75 = .ok (.goto 4, 3) := by decide +kernel
theorem dX8_widestStep_78 : decode cX8_widestStep 78 = .ok (.iconst 0, 1) := by decide +kernel
theorem dX8_widestStep_79 : decode cX8_widestStep 79 = .ok (.istore 4, 2) := by decide +kernel
theorem dX8_widestStep_81 : decode cX8_widestStep 81 = .ok (.iload_n 3, 1) := by decide +kernel
theorem dX8_widestStep_82 : decode cX8_widestStep 82 = .ok (.iload 4, 2) := by decide +kernel
theorem dX8_widestStep_84 : decode cX8_widestStep 84 = .ok (.ifCond .eq 7, 3) := by decide +kernel
theorem dX8_widestStep_87 : decode cX8_widestStep 87 = .ok (.iconst 1, 1) := by decide +kernel
theorem dX8_widestStep_88 : decode cX8_widestStep 88 = .ok (.goto 4, 3) := by decide +kernel
theorem dX8_widestStep_91 : decode cX8_widestStep 91 = .ok (.iconst 0, 1) := by decide +kernel
theorem dX8_widestStep_92 : decode cX8_widestStep 92 = .ok (.isub, 1) := by decide +kernel
theorem dX8_widestStep_93 : decode cX8_widestStep 93 = .ok (.istore_n 3, 1) := by decide +kernel
theorem dX8_widestStep_94 : decode cX8_widestStep 94 = .ok (.iload 4, 2) := by decide +kernel
theorem dX8_widestStep_96 : decode cX8_widestStep 96 = .ok (.ifCond .eq 11, 3) := by decide +kernel
theorem dX8_widestStep_99 : decode cX8_widestStep 99 = .ok (.iload_n 3, 1) := by decide +kernel
theorem dX8_widestStep_100 : decode cX8_widestStep 100 = .ok (.ifCond .lt 7, 3) := by decide +kernel
theorem dX8_widestStep_103 : decode cX8_widestStep 103 = .ok (.iconst 1, 1) := by decide +kernel
theorem dX8_widestStep_104 : decode cX8_widestStep 104 = .ok (.goto 4, 3) := by decide +kernel
theorem dX8_widestStep_107 : decode cX8_widestStep 107 = .ok (.iconst 0, 1) := by decide +kernel
theorem dX8_widestStep_108 : decode cX8_widestStep 108 = .ok (.istore 4, 2) := by decide +kernel
theorem dX8_widestStep_110 : decode cX8_widestStep 110 = .ok (.goto (-58), 3) := by decide +kernel
theorem dX8_widestStep_113 : decode cX8_widestStep 113 = .ok (.aload_n 0, 1) := by decide +kernel
theorem dX8_widestStep_114 : decode cX8_widestStep 114 = .ok (.getfield 7, 3) := by decide +kernel
theorem dX8_widestStep_117 : decode cX8_widestStep 117 = .ok (.bipush 74, 2) := by decide +kernel
theorem dX8_widestStep_119 : decode cX8_widestStep 119 = .ok (.iload_n 2, 1) := by decide +kernel
theorem dX8_widestStep_120 : decode cX8_widestStep 120 = .ok (.iastore, 1) := by decide +kernel
theorem dX8_widestStep_121 : decode cX8_widestStep 121 = .ok (.iload_n 3, 1) := by decide +kernel
theorem dX8_widestStep_122 : decode cX8_widestStep 122 = .ok (.ireturn, 1) := by decide +kernel
theorem dX8_tightestLimit_0 : decode cX8_tightestLimit 0 = .ok (.aload_n 0, 1) := by decide +kernel
theorem dX8_tightestLimit_1 : decode cX8_tightestLimit 1 = .ok (.invokevirtual 83, 3) := by decide +kernel
theorem dX8_tightestLimit_4 : decode cX8_tightestLimit 4 = .ok (.aload_n 0, 1) := by decide +kernel
theorem dX8_tightestLimit_5 : decode cX8_tightestLimit 5 = .ok (.getfield 7, 3) := by decide +kernel
theorem dX8_tightestLimit_8 : decode cX8_tightestLimit 8 = .ok (.bipush 81, 2) := by decide +kernel
theorem dX8_tightestLimit_10 : decode cX8_tightestLimit 10 = .ok (.iaload, 1) := by decide +kernel
theorem dX8_tightestLimit_11 : decode cX8_tightestLimit 11 = .ok (.istore_n 1, 1) := by decide +kernel
theorem dX8_tightestLimit_12 : decode cX8_tightestLimit 12 = .ok (.aload_n 0, 1) := by decide +kernel
theorem dX8_tightestLimit_13 : decode cX8_tightestLimit 13 = .ok (.getfield 7, 3) := by decide +kernel
theorem dX8_tightestLimit_16 : decode cX8_tightestLimit 16 = .ok (.bipush 81, 2) := by decide +kernel
theorem dX8_tightestLimit_18 : decode cX8_tightestLimit 18 = .ok (.bipush 9, 2) := by decide +kernel
theorem dX8_tightestLimit_20 : decode cX8_tightestLimit 20 = .ok (.iastore, 1) := by decide +kernel
theorem dX8_tightestLimit_21 : decode cX8_tightestLimit 21 = .ok (.aload_n 0, 1) := by decide +kernel
theorem dX8_tightestLimit_22 : decode cX8_tightestLimit 22 = .ok (.invokevirtual 144, 3) := by decide +kernel
theorem dX8_tightestLimit_25 : decode cX8_tightestLimit 25 = .ok (.istore_n 2, 1) := by decide +kernel
theorem dX8_tightestLimit_26 : decode cX8_tightestLimit 26 = .ok (.iload_n 2, 1) := by decide +kernel
theorem dX8_tightestLimit_27 : decode cX8_tightestLimit 27 = .ok (.iconst (-1), 1) := by decide +kernel
theorem dX8_tightestLimit_28 : decode cX8_tightestLimit 28 = .ok (.if_icmp .ne 7, 3) := by decide +kernel
theorem dX8_tightestLimit_31 : decode cX8_tightestLimit 31 = .ok (.iconst (-1), 1) := by decide +kernel
theorem dX8_tightestLimit_32 : decode cX8_tightestLimit 32 = .ok (.goto 4, 3) := by decide +kernel
theorem dX8_tightestLimit_35 : decode cX8_tightestLimit 35 = .ok (.iconst 1, 1) := by decide +kernel
theorem dX8_tightestLimit_36 : decode cX8_tightestLimit 36 = .ok (.istore_n 3, 1) := by decide +kernel
theorem dX8_tightestLimit_37 : decode cX8_tightestLimit 37 = .ok (.iload_n 2, 1) := by decide +kernel
theorem dX8_tightestLimit_38 : decode cX8_tightestLimit 38 = .ok (.iconst (-1), 1) := by decide +kernel
theorem dX8_tightestLimit_39 : decode cX8_tightestLimit 39 = .ok (.if_icmp .eq 7, 3) := by decide +kernel
theorem dX8_tightestLimit_42 : decode cX8_tightestLimit 42 = .ok (.iconst 1, 1) := by decide +kernel
theorem dX8_tightestLimit_43 : decode cX8_tightestLimit 43 = .ok (.goto 4, 3) := by decide +kernel
theorem dX8_tightestLimit_46 : decode cX8_tightestLimit 46 = .ok (.iconst 0, 1) := by decide +kernel
theorem dX8_tightestLimit_47 : decode cX8_tightestLimit 47 = .ok (.istore 4, 2) := by decide +kernel
theorem dX8_tightestLimit_49 : decode cX8_tightestLimit 49 = .ok (.iload 4, 2) := by decide +kernel
theorem dX8_tightestLimit_51 : decode cX8_tightestLimit 51 = .ok (.ifCond .eq 42, 3) := by decide +kernel
theorem dX8_tightestLimit_54 : decode cX8_tightestLimit 54 = .ok (.aload_n 0, 1) := by decide +kernel
theorem dX8_tightestLimit_55 : decode cX8_tightestLimit 55 = .ok (.getfield 7, 3) := by decide +kernel
theorem dX8_tightestLimit_58 : decode cX8_tightestLimit 58 = .ok (.bipush 81, 2) := by decide +kernel
theorem dX8_tightestLimit_60 : decode cX8_tightestLimit 60 = .ok (.iload_n 3, 1) := by decide +kernel
theorem dX8_tightestLimit_61 : decode cX8_tightestLimit 61 = .ok (.iastore, 1) := by decide +kernel
theorem dX8_tightestLimit_62 : decode cX8_tightestLimit 62 = .ok (.aload_n 0, 1) := by decide +kernel
theorem dX8_tightestLimit_63 : decode cX8_tightestLimit 63 = .ok (.invokevirtual 144, 3) := by decide +kernel
theorem dX8_tightestLimit_66 : decode cX8_tightestLimit 66 = .ok (.iload_n 2, 1) := by decide +kernel
theorem dX8_tightestLimit_67 : decode cX8_tightestLimit 67 = .ok (.if_icmp .eq 7, 3) := by decide +kernel
theorem dX8_tightestLimit_70 : decode cX8_tightestLimit 70 = .ok (.iconst 1, 1) := by decide +kernel
theorem dX8_tightestLimit_71 : decode cX8_tightestLimit 71 = .ok (.goto 4, 3) := by decide +kernel
theorem dX8_tightestLimit_74 : decode cX8_tightestLimit 74 = .ok (.iconst 0, 1) := by decide +kernel
theorem dX8_tightestLimit_75 : decode cX8_tightestLimit 75 = .ok (.istore 4, 2) := by decide +kernel
theorem dX8_tightestLimit_77 : decode cX8_tightestLimit 77 = .ok (.iload_n 3, 1) := by decide +kernel
theorem dX8_tightestLimit_78 : decode cX8_tightestLimit 78 = .ok (.iload 4, 2) := by decide +kernel
theorem dX8_tightestLimit_80 : decode cX8_tightestLimit 80 = .ok (.ifCond .eq 7, 3) := by decide +kernel
theorem dX8_tightestLimit_83 : decode cX8_tightestLimit 83 = .ok (.iconst 1, 1) := by decide +kernel
theorem dX8_tightestLimit_84 : decode cX8_tightestLimit 84 = .ok (.goto 4, 3) := by decide +kernel
theorem dX8_tightestLimit_87 : decode cX8_tightestLimit 87 = .ok (.iconst 0, 1) := by decide +kernel
theorem dX8_tightestLimit_88 : decode cX8_tightestLimit 88 = .ok (.iadd, 1) := by decide +kernel
theorem dX8_tightestLimit_89 : decode cX8_tightestLimit 89 = .ok (.istore_n 3, 1) := by decide +kernel
theorem dX8_tightestLimit_90 : decode cX8_tightestLimit 90 = .ok (.goto (-41), 3) := by decide +kernel
theorem dX8_tightestLimit_93 : decode cX8_tightestLimit 93 = .ok (.aload_n 0, 1) := by decide +kernel
theorem dX8_tightestLimit_94 : decode cX8_tightestLimit 94 = .ok (.getfield 7, 3) := by decide +kernel
theorem dX8_tightestLimit_97 : decode cX8_tightestLimit 97 = .ok (.bipush 81, 2) := by decide +kernel
theorem dX8_tightestLimit_99 : decode cX8_tightestLimit 99 = .ok (.iload_n 1, 1) := by decide +kernel
theorem dX8_tightestLimit_100 : decode cX8_tightestLimit 100 = .ok (.iastore, 1) := by decide +kernel
theorem dX8_tightestLimit_101 : decode cX8_tightestLimit 101 = .ok (.iload_n 3, 1) := by decide +kernel
theorem dX8_tightestLimit_102 : decode cX8_tightestLimit 102 = .ok (.ireturn, 1) := by decide +kernel
theorem dX8_layout_0 : decode cX8_layout 0 = .ok (.iload_n 1, 1) := by decide +kernel
theorem dX8_layout_1 : decode cX8_layout 1 = .ok (.iconst 0, 1) := by decide +kernel
theorem dX8_layout_2 : decode cX8_layout 2 = .ok (.iconst 4, 1) := by decide +kernel
theorem dX8_layout_3 : decode cX8_layout 3 = .ok (.invokestatic 53, 3) := by decide +kernel
theorem dX8_layout_6 : decode cX8_layout 6 = .ok (.ifCond .ne 6, 3) := by decide +kernel
theorem dX8_layout_9 : decode cX8_layout 9 = .ok (.bipush (-3), 2) := by decide +kernel
theorem dX8_layout_11 : decode cX8_layout 11 = .ok (.ireturn, 1) := by decide +kernel
theorem dX8_layout_12 : decode cX8_layout 12 = .ok (.aload_n 0, 1) := by decide +kernel
theorem dX8_layout_13 : decode cX8_layout 13 = .ok (.getfield 7, 3) := by decide +kernel
theorem dX8_layout_16 : decode cX8_layout 16 = .ok (.bipush 82, 2) := by decide +kernel
theorem dX8_layout_18 : decode cX8_layout 18 = .ok (.iaload, 1) := by decide +kernel
theorem dX8_layout_19 : decode cX8_layout 19 = .ok (.iconst 1, 1) := by decide +kernel
theorem dX8_layout_20 : decode cX8_layout 20 = .ok (.if_icmp .ne 15, 3) := by decide +kernel
theorem dX8_layout_23 : decode cX8_layout 23 = .ok (.aload_n 0, 1) := by decide +kernel
theorem dX8_layout_24 : decode cX8_layout 24 = .ok (.getfield 7, 3) := by decide +kernel
theorem dX8_layout_27 : decode cX8_layout 27 = .ok (.bipush 83, 2) := by decide +kernel
theorem dX8_layout_29 : decode cX8_layout 29 = .ok (.iload_n 1, 1) := by decide +kernel
theorem dX8_layout_30 : decode cX8_layout 30 = .ok (.iadd, 1) := by decide +kernel
theorem dX8_layout_31 : decode cX8_layout 31 = .ok (.iaload, 1) := by decide +kernel
theorem dX8_layout_32 : decode cX8_layout 32 = .ok (.goto 5, 3) := by decide +kernel
theorem dX8_layout_35 : decode cX8_layout 35 = .ok (.bipush (-4), 2) := by decide +kernel
theorem dX8_layout_37 : decode cX8_layout 37 = .ok (.ireturn, 1) := by decide +kernel
theorem dX8_line_0 : decode cX8_line 0 = .ok (.aload_n 0, 1) := by decide +kernel
theorem dX8_line_1 : decode cX8_line 1 = .ok (.getfield 7, 3) := by decide +kernel
theorem dX8_line_4 : decode cX8_line 4 = .ok (.bipush 82, 2) := by decide +kernel
theorem dX8_line_6 : decode cX8_line 6 = .ok (.iaload, 1) := by decide +kernel
theorem dX8_line_7 : decode cX8_line 7 = .ok (.ifCond .ne 6, 3) := by decide +kernel
theorem dX8_line_10 : decode cX8_line 10 = .ok (.bipush (-4), 2) := by decide +kernel
theorem dX8_line_12 : decode cX8_line 12 = .ok (.ireturn, 1) := by decide +kernel
theorem dX8_line_13 : decode cX8_line 13 = .ok (.iload_n 1, 1) := by decide +kernel
theorem dX8_line_14 : decode cX8_line 14 = .ok (.iconst 0, 1) := by decide +kernel
theorem dX8_line_15 : decode cX8_line 15 = .ok (.aload_n 0, 1) := by decide +kernel
theorem dX8_line_16 : decode cX8_line 16 = .ok (.getfield 7, 3) := by decide +kernel
theorem dX8_line_19 : decode cX8_line 19 = .ok (.bipush 84, 2) := by decide +kernel
theorem dX8_line_21 : decode cX8_line 21 = .ok (.iaload, 1) := by decide +kernel
theorem dX8_line_22 : decode cX8_line 22 = .ok (.iconst 1, 1) := by decide +kernel
theorem dX8_line_23 : decode cX8_line 23 = .ok (.isub, 1) := by decide +kernel
theorem dX8_line_24 : decode cX8_line 24 = .ok (.invokestatic 53, 3) := by decide +kernel
theorem dX8_line_27 : decode cX8_line 27 = .ok (.ifCond .ne 6, 3) := by decide +kernel
theorem dX8_line_30 : decode cX8_line 30 = .ok (.bipush (-2), 2) := by decide +kernel
theorem dX8_line_32 : decode cX8_line 32 = .ok (.ireturn, 1) := by decide +kernel
theorem dX8_line_33 : decode cX8_line 33 = .ok (.iload_n 2, 1) := by decide +kernel
theorem dX8_line_34 : decode cX8_line 34 = .ok (.iconst 0, 1) := by decide +kernel
theorem dX8_line_35 : decode cX8_line 35 = .ok (.bipush 6, 2) := by decide +kernel
theorem dX8_line_37 : decode cX8_line 37 = .ok (.invokestatic 53, 3) := by decide +kernel
theorem dX8_line_40 : decode cX8_line 40 = .ok (.ifCond .eq 20, 3) := by decide +kernel
theorem dX8_line_43 : decode cX8_line 43 = .ok (.aload_n 0, 1) := by decide +kernel
theorem dX8_line_44 : decode cX8_line 44 = .ok (.getfield 7, 3) := by decide +kernel
theorem dX8_line_47 : decode cX8_line 47 = .ok (.bipush 88, 2) := by decide +kernel
theorem dX8_line_49 : decode cX8_line 49 = .ok (.bipush 7, 2) := by decide +kernel
theorem dX8_line_51 : decode cX8_line 51 = .ok (.iload_n 1, 1) := by decide +kernel
theorem dX8_line_52 : decode cX8_line 52 = .ok (.imul, 1) := by decide +kernel
theorem dX8_line_53 : decode cX8_line 53 = .ok (.iadd, 1) := by decide +kernel
theorem dX8_line_54 : decode cX8_line 54 = .ok (.iload_n 2, 1) := by decide +kernel
theorem dX8_line_55 : decode cX8_line 55 = .ok (.iadd, 1) := by decide +kernel
theorem dX8_line_56 : decode cX8_line 56 = .ok (.iaload, 1) := by decide +kernel
theorem dX8_line_57 : decode cX8_line 57 = .ok (.goto 5, 3) := by decide +kernel
theorem dX8_line_60 : decode cX8_line 60 = .ok (.bipush (-3), 2) := by decide +kernel
theorem dX8_line_62 : decode cX8_line 62 = .ok (.ireturn, 1) := by decide +kernel
theorem dX8_placed_0 : decode cX8_placed 0 = .ok (.aload_n 0, 1) := by decide +kernel
theorem dX8_placed_1 : decode cX8_placed 1 = .ok (.getfield 7, 3) := by decide +kernel
theorem dX8_placed_4 : decode cX8_placed 4 = .ok (.bipush 82, 2) := by decide +kernel
theorem dX8_placed_6 : decode cX8_placed 6 = .ok (.iaload, 1) := by decide +kernel
theorem dX8_placed_7 : decode cX8_placed 7 = .ok (.ifCond .ne 6, 3) := by decide +kernel
theorem dX8_placed_10 : decode cX8_placed 10 = .ok (.bipush (-4), 2) := by decide +kernel
theorem dX8_placed_12 : decode cX8_placed 12 = .ok (.ireturn, 1) := by decide +kernel
theorem dX8_placed_13 : decode cX8_placed 13 = .ok (.iload_n 1, 1) := by decide +kernel
theorem dX8_placed_14 : decode cX8_placed 14 = .ok (.iconst 0, 1) := by decide +kernel
theorem dX8_placed_15 : decode cX8_placed 15 = .ok (.aload_n 0, 1) := by decide +kernel
theorem dX8_placed_16 : decode cX8_placed 16 = .ok (.getfield 7, 3) := by decide +kernel
theorem dX8_placed_19 : decode cX8_placed 19 = .ok (.sipush 256, 3) := by decide +kernel
theorem dX8_placed_22 : decode cX8_placed 22 = .ok (.iaload, 1) := by decide +kernel
theorem dX8_placed_23 : decode cX8_placed 23 = .ok (.iconst 1, 1) := by decide +kernel
theorem dX8_placed_24 : decode cX8_placed 24 = .ok (.isub, 1) := by decide +kernel
theorem dX8_placed_25 : decode cX8_placed 25 = .ok (.invokestatic 53, 3) := by decide +kernel
theorem dX8_placed_28 : decode cX8_placed 28 = .ok (.ifCond .ne 6, 3) := by decide +kernel
theorem dX8_placed_31 : decode cX8_placed 31 = .ok (.bipush (-2), 2) := by decide +kernel
theorem dX8_placed_33 : decode cX8_placed 33 = .ok (.ireturn, 1) := by decide +kernel
theorem dX8_placed_34 : decode cX8_placed 34 = .ok (.iload_n 2, 1) := by decide +kernel
theorem dX8_placed_35 : decode cX8_placed 35 = .ok (.iconst 0, 1) := by decide +kernel
theorem dX8_placed_36 : decode cX8_placed 36 = .ok (.iconst 4, 1) := by decide +kernel
theorem dX8_placed_37 : decode cX8_placed 37 = .ok (.invokestatic 53, 3) := by decide +kernel
theorem dX8_placed_40 : decode cX8_placed 40 = .ok (.ifCond .eq 20, 3) := by decide +kernel
theorem dX8_placed_43 : decode cX8_placed 43 = .ok (.aload_n 0, 1) := by decide +kernel
theorem dX8_placed_44 : decode cX8_placed 44 = .ok (.getfield 7, 3) := by decide +kernel
theorem dX8_placed_47 : decode cX8_placed 47 = .ok (.sipush 186, 3) := by decide +kernel
theorem dX8_placed_50 : decode cX8_placed 50 = .ok (.iconst 5, 1) := by decide +kernel
theorem dX8_placed_51 : decode cX8_placed 51 = .ok (.iload_n 1, 1) := by decide +kernel
theorem dX8_placed_52 : decode cX8_placed 52 = .ok (.imul, 1) := by decide +kernel
theorem dX8_placed_53 : decode cX8_placed 53 = .ok (.iadd, 1) := by decide +kernel
theorem dX8_placed_54 : decode cX8_placed 54 = .ok (.iload_n 2, 1) := by decide +kernel
theorem dX8_placed_55 : decode cX8_placed 55 = .ok (.iadd, 1) := by decide +kernel
theorem dX8_placed_56 : decode cX8_placed 56 = .ok (.iaload, 1) := by decide +kernel
theorem dX8_placed_57 : decode cX8_placed 57 = .ok (.goto 5, 3) := by decide +kernel
theorem dX8_placed_60 : decode cX8_placed 60 = .ok (.bipush (-3), 2) := by decide +kernel
theorem dX8_placed_62 : decode cX8_placed 62 = .ok (.ireturn, 1) := by decide +kernel
theorem dX8_type_0 : decode cX8_type 0 = .ok (.iload_n 1, 1) := by decide +kernel
theorem dX8_type_1 : decode cX8_type 1 = .ok (.iconst 0, 1) := by decide +kernel
theorem dX8_type_2 : decode cX8_type 2 = .ok (.sipush 255, 3) := by decide +kernel
theorem dX8_type_5 : decode cX8_type 5 = .ok (.invokestatic 53, 3) := by decide +kernel
theorem dX8_type_8 : decode cX8_type 8 = .ok (.ifCond .ne 6, 3) := by decide +kernel
theorem dX8_type_11 : decode cX8_type 11 = .ok (.bipush (-3), 2) := by decide +kernel
theorem dX8_type_13 : decode cX8_type 13 = .ok (.ireturn, 1) := by decide +kernel
theorem dX8_type_14 : decode cX8_type 14 = .ok (.aload_n 0, 1) := by decide +kernel
theorem dX8_type_15 : decode cX8_type 15 = .ok (.getfield 150, 3) := by decide +kernel
theorem dX8_type_18 : decode cX8_type 18 = .ok (.bipush 80, 2) := by decide +kernel
theorem dX8_type_20 : decode cX8_type 20 = .ok (.if_icmp .ne 6, 3) := by decide +kernel
theorem dX8_type_23 : decode cX8_type 23 = .ok (.bipush (-5), 2) := by decide +kernel
theorem dX8_type_25 : decode cX8_type 25 = .ok (.ireturn, 1) := by decide +kernel
theorem dX8_type_26 : decode cX8_type 26 = .ok (.aload_n 0, 1) := by decide +kernel
theorem dX8_type_27 : decode cX8_type 27 = .ok (.getfield 35, 3) := by decide +kernel
theorem dX8_type_30 : decode cX8_type 30 = .ok (.aload_n 0, 1) := by decide +kernel
theorem dX8_type_31 : decode cX8_type 31 = .ok (.getfield 150, 3) := by decide +kernel
theorem dX8_type_34 : decode cX8_type 34 = .ok (.iload_n 1, 1) := by decide +kernel
theorem dX8_type_35 : decode cX8_type 35 = .ok (.iastore, 1) := by decide +kernel
theorem dX8_type_36 : decode cX8_type 36 = .ok (.aload_n 0, 1) := by decide +kernel
theorem dX8_type_37 : decode cX8_type 37 = .ok (.dup, 1) := by decide +kernel
theorem dX8_type_38 : decode cX8_type 38 = .ok (.getfield 150, 3) := by decide +kernel
theorem dX8_type_41 : decode cX8_type 41 = .ok (.iconst 1, 1) := by decide +kernel
theorem dX8_type_42 : decode cX8_type 42 = .ok (.iadd, 1) := by decide +kernel
theorem dX8_type_43 : decode cX8_type 43 = .ok (.putfield 150, 3) := by decide +kernel
theorem dX8_type_46 : decode cX8_type 46 = .ok (.aload_n 0, 1) := by decide +kernel
theorem dX8_type_47 : decode cX8_type 47 = .ok (.getfield 150, 3) := by decide +kernel
theorem dX8_type_50 : decode cX8_type 50 = .ok (.ireturn, 1) := by decide +kernel
theorem dX8_clearText_0 : decode cX8_clearText 0 = .ok (.aload_n 0, 1) := by decide +kernel
theorem dX8_clearText_1 : decode cX8_clearText 1 = .ok (.getfield 150, 3) := by decide +kernel
theorem dX8_clearText_4 : decode cX8_clearText 4 = .ok (.istore_n 1, 1) := by decide +kernel
theorem dX8_clearText_5 : decode cX8_clearText 5 = .ok (.aload_n 0, 1) := by decide +kernel
theorem dX8_clearText_6 : decode cX8_clearText 6 = .ok (.iconst 0, 1) := by decide +kernel
theorem dX8_clearText_7 : decode cX8_clearText 7 = .ok (.putfield 150, 3) := by decide +kernel
theorem dX8_clearText_10 : decode cX8_clearText 10 = .ok (.iload_n 1, 1) := by decide +kernel
theorem dX8_clearText_11 : decode cX8_clearText 11 = .ok (.ireturn, 1) := by decide +kernel
theorem dX8_isLetter_0 : decode cX8_isLetter 0 = .ok (.aload_n 0, 1) := by decide +kernel
theorem dX8_isLetter_1 : decode cX8_isLetter 1 = .ok (.getfield 153, 3) := by decide +kernel
theorem dX8_isLetter_4 : decode cX8_isLetter 4 = .ok (.aload_n 0, 1) := by decide +kernel
theorem dX8_isLetter_5 : decode cX8_isLetter 5 = .ok (.getfield 150, 3) := by decide +kernel
theorem dX8_isLetter_8 : decode cX8_isLetter 8 = .ok (.if_icmp .ge 45, 3) := by decide +kernel
theorem dX8_isLetter_11 : decode cX8_isLetter 11 = .ok (.aload_n 0, 1) := by decide +kernel
theorem dX8_isLetter_12 : decode cX8_isLetter 12 = .ok (.getfield 35, 3) := by decide +kernel
theorem dX8_isLetter_15 : decode cX8_isLetter 15 = .ok (.aload_n 0, 1) := by decide +kernel
theorem dX8_isLetter_16 : decode cX8_isLetter 16 = .ok (.getfield 153, 3) := by decide +kernel
theorem dX8_isLetter_19 : decode cX8_isLetter 19 = .ok (.iaload, 1) := by decide +kernel
theorem dX8_isLetter_20 : decode cX8_isLetter 20 = .ok (.bipush 65, 2) := by decide +kernel
theorem dX8_isLetter_22 : decode cX8_isLetter 22 = .ok (.bipush 90, 2) := by decide +kernel
theorem dX8_isLetter_24 : decode cX8_isLetter 24 = .ok (.invokestatic 53, 3) := by decide +kernel
theorem dX8_isLetter_27 : decode cX8_isLetter 27 = .ok (.ifCond .ne 22, 3) := by decide +kernel
theorem dX8_isLetter_30 : decode cX8_isLetter 30 = .ok (.aload_n 0, 1) := by decide +kernel
theorem dX8_isLetter_31 : decode cX8_isLetter 31 = .ok (.getfield 35, 3) := by decide +kernel
theorem dX8_isLetter_34 : decode cX8_isLetter 34 = .ok (.aload_n 0, 1) := by decide +kernel
theorem dX8_isLetter_35 : decode cX8_isLetter 35 = .ok (.getfield 153, 3) := by decide +kernel
theorem dX8_isLetter_38 : decode cX8_isLetter 38 = .ok (.iaload, 1) := by decide +kernel
theorem dX8_isLetter_39 : decode cX8_isLetter 39 = .ok (.bipush 97, 2) := by decide +kernel
theorem dX8_isLetter_41 : decode cX8_isLetter 41 = .ok (.bipush 122, 2) := by decide +kernel
theorem dX8_isLetter_43 : decode cX8_isLetter 43 = .ok (.invokestatic 53, 3) := by decide +kernel
theorem dX8_isLetter_46 : decode cX8_isLetter 46 = .ok (.ifCond .eq 7, 3) := by decide +kernel
theorem dX8_isLetter_49 : decode cX8_isLetter 49 = .ok (.iconst 1, 1) := by decide +kernel
theorem dX8_isLetter_50 : decode cX8_isLetter 50 = .ok (.goto 4, 3) := by decide +kernel
theorem dX8_isLetter_53 : decode cX8_isLetter 53 = .ok (.iconst 0, 1) := by decide +kernel
theorem dX8_isLetter_54 : decode cX8_isLetter 54 = .ok (.ireturn, 1) := by decide +kernel
theorem dX8_isSign_0 : decode cX8_isSign 0 = .ok (.aload_n 0, 1) := by decide +kernel
theorem dX8_isSign_1 : decode cX8_isSign 1 = .ok (.getfield 153, 3) := by decide +kernel
theorem dX8_isSign_4 : decode cX8_isSign 4 = .ok (.aload_n 0, 1) := by decide +kernel
theorem dX8_isSign_5 : decode cX8_isSign 5 = .ok (.getfield 150, 3) := by decide +kernel
theorem dX8_isSign_8 : decode cX8_isSign 8 = .ok (.if_icmp .ge 20, 3) := by decide +kernel
theorem dX8_isSign_11 : decode cX8_isSign 11 = .ok (.aload_n 0, 1) := by decide +kernel
theorem dX8_isSign_12 : decode cX8_isSign 12 = .ok (.getfield 35, 3) := by decide +kernel
theorem dX8_isSign_15 : decode cX8_isSign 15 = .ok (.aload_n 0, 1) := by decide +kernel
theorem dX8_isSign_16 : decode cX8_isSign 16 = .ok (.getfield 153, 3) := by decide +kernel
theorem dX8_isSign_19 : decode cX8_isSign 19 = .ok (.iaload, 1) := by decide +kernel
theorem dX8_isSign_20 : decode cX8_isSign 20 = .ok (.iload_n 1, 1) := by decide +kernel
theorem dX8_isSign_21 : decode cX8_isSign 21 = .ok (.if_icmp .ne 7, 3) := by decide +kernel
theorem dX8_isSign_24 : decode cX8_isSign 24 = .ok (.iconst 1, 1) := by decide +kernel
theorem dX8_isSign_25 : decode cX8_isSign 25 = .ok (.goto 4, 3) := by decide +kernel
theorem dX8_isSign_28 : decode cX8_isSign 28 = .ok (.iconst 0, 1) := by decide +kernel
theorem dX8_isSign_29 : decode cX8_isSign 29 = .ok (.ireturn, 1) := by decide +kernel
theorem dX8_blanks_0 : decode cX8_blanks 0 = .ok (.aload_n 0, 1) := by decide +kernel
theorem dX8_blanks_1 : decode cX8_blanks 1 = .ok (.getfield 153, 3) := by decide +kernel
theorem dX8_blanks_4 : decode cX8_blanks 4 = .ok (.istore_n 1, 1) := by decide +kernel
theorem dX8_blanks_5 : decode cX8_blanks 5 = .ok (.aload_n 0, 1) := by decide +kernel
theorem dX8_blanks_6 : decode cX8_blanks 6 = .ok (.bipush 32, 2) := by decide +kernel
theorem dX8_blanks_8 : decode cX8_blanks 8 = .ok (.invokevirtual 156, 3) := by decide +kernel
theorem dX8_blanks_11 : decode cX8_blanks 11 = .ok (.ifCond .eq 16, 3) := by decide +kernel
theorem dX8_blanks_14 : decode cX8_blanks 14 = .ok (.aload_n 0, 1) := by decide +kernel
theorem dX8_blanks_15 : decode cX8_blanks 15 = .ok (.dup, 1) := by decide +kernel
theorem dX8_blanks_16 : decode cX8_blanks 16 = .ok (.getfield 153, 3) := by decide +kernel
theorem dX8_blanks_19 : decode cX8_blanks 19 = .ok (.iconst 1, 1) := by decide +kernel
theorem dX8_blanks_20 : decode cX8_blanks 20 = .ok (.iadd, 1) := by decide +kernel
theorem dX8_blanks_21 : decode cX8_blanks 21 = .ok (.putfield 153, 3) := by decide +kernel
theorem dX8_blanks_24 : decode cX8_blanks 24 = .ok (.goto (-19), 3) := by decide +kernel
theorem dX8_blanks_27 : decode cX8_blanks 27 = .ok (.aload_n 0, 1) := by decide +kernel
theorem dX8_blanks_28 : decode cX8_blanks 28 = .ok (.getfield 153, 3) := by decide +kernel
theorem dX8_blanks_31 : decode cX8_blanks 31 = .ok (.iload_n 1, 1) := by decide +kernel
theorem dX8_blanks_32 : decode cX8_blanks 32 = .ok (.if_icmp .le 7, 3) := by decide +kernel
theorem dX8_blanks_35 : decode cX8_blanks 35 = .ok (.iconst 1, 1) := by decide +kernel
theorem dX8_blanks_36 : decode cX8_blanks 36 = .ok (.goto 4, 3) := by decide +kernel
theorem dX8_blanks_39 : decode cX8_blanks 39 = .ok (.iconst 0, 1) := by decide +kernel
theorem dX8_blanks_40 : decode cX8_blanks 40 = .ok (.ireturn, 1) := by decide +kernel
theorem dX8_readsText_0 : decode cX8_readsText 0 = .ok (.aload_n 0, 1) := by decide +kernel
theorem dX8_readsText_1 : decode cX8_readsText 1 = .ok (.iconst 0, 1) := by decide +kernel
theorem dX8_readsText_2 : decode cX8_readsText 2 = .ok (.putfield 153, 3) := by decide +kernel
theorem dX8_readsText_5 : decode cX8_readsText 5 = .ok (.aload_n 0, 1) := by decide +kernel
theorem dX8_readsText_6 : decode cX8_readsText 6 = .ok (.iconst 0, 1) := by decide +kernel
theorem dX8_readsText_7 : decode cX8_readsText 7 = .ok (.putfield 159, 3) := by decide +kernel
theorem dX8_readsText_10 : decode cX8_readsText 10 = .ok (.aload_n 0, 1) := by decide +kernel
theorem dX8_readsText_11 : decode cX8_readsText 11 = .ok (.invokevirtual 162, 3) := by decide +kernel
theorem dX8_readsText_14 : decode cX8_readsText 14 = .ok (.istore_n 1, 1) := by decide +kernel
theorem dX8_readsText_15 : decode cX8_readsText 15 = .ok (.iconst 0, 1) := by decide +kernel
theorem dX8_readsText_16 : decode cX8_readsText 16 = .ok (.istore_n 2, 1) := by decide +kernel
theorem dX8_readsText_17 : decode cX8_readsText 17 = .ok (.aload_n 0, 1) := by decide +kernel
theorem dX8_readsText_18 : decode cX8_readsText 18 = .ok (.getfield 153, 3) := by decide +kernel
theorem dX8_readsText_21 : decode cX8_readsText 21 = .ok (.aload_n 0, 1) := by decide +kernel
theorem dX8_readsText_22 : decode cX8_readsText 22 = .ok (.getfield 150, 3) := by decide +kernel
theorem dX8_readsText_25 : decode cX8_readsText 25 = .ok (.if_icmp .ge 7, 3) := by decide +kernel
theorem dX8_readsText_28 : decode cX8_readsText 28 = .ok (.iconst 1, 1) := by decide +kernel
theorem dX8_readsText_29 : decode cX8_readsText 29 = .ok (.goto 4, 3) := by decide +kernel
theorem dX8_readsText_32 : decode cX8_readsText 32 = .ok (.iconst 0, 1) := by decide +kernel
theorem dX8_readsText_33 : decode cX8_readsText 33 = .ok (.istore_n 3, 1) := by decide +kernel
theorem dX8_readsText_34 : decode cX8_readsText 34 = .ok (.iload_n 3, 1) := by decide +kernel
theorem dX8_readsText_35 : decode cX8_readsText 35 = .ok (.ifCond .eq 236, 3) := by decide +kernel
theorem dX8_readsText_38 : decode cX8_readsText 38 = .ok (.aload_n 0, 1) := by decide +kernel
theorem dX8_readsText_39 : decode cX8_readsText 39 = .ok (.invokevirtual 166, 3) := by decide +kernel
theorem dX8_readsText_42 : decode cX8_readsText 42 = .ok (.ifCond .eq 12, 3) := by decide +kernel
theorem dX8_readsText_45 : decode cX8_readsText 45 = .ok (.aload_n 0, 1) := by decide +kernel
theorem dX8_readsText_46 : decode cX8_readsText 46 = .ok (.getfield 159, 3) := by decide +kernel
theorem dX8_readsText_49 : decode cX8_readsText 49 = .ok (.bipush 14, 2) := by decide +kernel
theorem dX8_readsText_51 : decode cX8_readsText 51 = .ok (.if_icmp .ne 5, 3) := by decide +kernel
theorem dX8_readsText_54 : decode cX8_readsText 54 = .ok (.iconst 0, 1) := by decide +kernel
theorem dX8_readsText_55 : decode cX8_readsText 55 = .ok (.ireturn, 1) := by decide +kernel
theorem dX8_readsText_56 : decode cX8_readsText 56 = .ok (.iconst 0, 1) := by decide +kernel
theorem dX8_readsText_57 : decode cX8_readsText 57 = .ok (.istore 4, 2) := by decide +kernel
theorem dX8_readsText_59 : decode cX8_readsText 59 = .ok (.aload_n 0, 1) := by decide +kernel
theorem dX8_readsText_60 : decode cX8_readsText 60 = .ok (.invokevirtual 166, 3) := by decide +kernel
theorem dX8_readsText_63 : decode cX8_readsText 63 = .ok (.ifCond .eq 26, 3) := by decide +kernel
theorem dX8_readsText_66 : decode cX8_readsText 66 = .ok (.iload 4, 2) := by decide +kernel
theorem dX8_readsText_68 : decode cX8_readsText 68 = .ok (.bipush 12, 2) := by decide +kernel
theorem dX8_readsText_70 : decode cX8_readsText 70 = .ok (.if_icmp .ge 19, 3) := by decide +kernel
theorem dX8_readsText_73 : decode cX8_readsText 73 = .ok (.aload_n 0, 1) := by decide +kernel
theorem dX8_readsText_74 : decode cX8_readsText 74 = .ok (.dup, 1) := by decide +kernel
theorem dX8_readsText_75 : decode cX8_readsText 75 = .ok (.getfield 153, 3) := by decide +kernel
theorem dX8_readsText_78 : decode cX8_readsText 78 = .ok (.iconst 1, 1) := by decide +kernel
theorem dX8_readsText_79 : decode cX8_readsText 79 = .ok (.iadd, 1) := by decide +kernel
theorem dX8_readsText_80 : decode cX8_readsText 80 = .ok (.putfield 153, 3) := by decide +kernel
theorem dX8_readsText_83 : decode cX8_readsText 83 = .ok (.iinc 4 1, 3) := by decide +kernel
theorem dX8_readsText_86 : decode cX8_readsText 86 = .ok (.goto (-27), 3) := by decide +kernel
theorem dX8_readsText_89 : decode cX8_readsText 89 = .ok (.iconst 1, 1) := by decide +kernel
theorem dX8_readsText_90 : decode cX8_readsText 90 = .ok (.istore 5, 2) := by decide +kernel
theorem dX8_readsText_92 : decode cX8_readsText 92 = .ok (.aload_n 0, 1) := by decide +kernel
theorem dX8_readsText_93 : decode cX8_readsText 93 = .ok (.bipush 33, 2) := by decide +kernel
theorem dX8_readsText_95 : decode cX8_readsText 95 = .ok (.invokevirtual 156, 3) := by decide +kernel
theorem dX8_readsText_98 : decode cX8_readsText 98 = .ok (.ifCond .eq 25, 3) := by decide +kernel
theorem dX8_readsText_101 : decode cX8_readsText 101 = .ok (.iload 5, 2) := by decide +kernel
theorem dX8_readsText_103 : decode cX8_readsText 103 = .ok (.iconst 3, 1) := by decide +kernel
theorem dX8_readsText_104 : decode cX8_readsText 104 = .ok (.if_icmp .ge 19, 3) := by decide +kernel
theorem dX8_readsText_107 : decode cX8_readsText 107 = .ok (.aload_n 0, 1) := by decide +kernel
theorem dX8_readsText_108 : decode cX8_readsText 108 = .ok (.dup, 1) := by decide +kernel
theorem dX8_readsText_109 : decode cX8_readsText 109 = .ok (.getfield 153, 3) := by decide +kernel
theorem dX8_readsText_112 : decode cX8_readsText 112 = .ok (.iconst 1, 1) := by decide +kernel
theorem dX8_readsText_113 : decode cX8_readsText 113 = .ok (.iadd, 1) := by decide +kernel
theorem dX8_readsText_114 : decode cX8_readsText 114 = .ok (.putfield 153, 3) := by decide +kernel
theorem dX8_readsText_117 : decode cX8_readsText 117 = .ok (.iinc 5 1, 3) := by decide +kernel
theorem dX8_readsText_120 : decode cX8_readsText 120 = .ok (.goto (-28), 3) := by decide +kernel
theorem dX8_readsText_123 : decode cX8_readsText 123 = .ok (.aload_n 0, 1) := by decide +kernel
theorem dX8_readsText_124 : decode cX8_readsText 124 = .ok (.getfield 38, 3) := by decide +kernel
theorem dX8_readsText_127 : decode cX8_readsText 127 = .ok (.iconst 3, 1) := by decide +kernel
theorem dX8_readsText_128 : decode cX8_readsText 128 = .ok (.aload_n 0, 1) := by decide +kernel
theorem dX8_readsText_129 : decode cX8_readsText 129 = .ok (.getfield 159, 3) := by decide +kernel
theorem dX8_readsText_132 : decode cX8_readsText 132 = .ok (.imul, 1) := by decide +kernel
theorem dX8_readsText_133 : decode cX8_readsText 133 = .ok (.iload 4, 2) := by decide +kernel
theorem dX8_readsText_135 : decode cX8_readsText 135 = .ok (.iastore, 1) := by decide +kernel
theorem dX8_readsText_136 : decode cX8_readsText 136 = .ok (.aload_n 0, 1) := by decide +kernel
theorem dX8_readsText_137 : decode cX8_readsText 137 = .ok (.getfield 38, 3) := by decide +kernel
theorem dX8_readsText_140 : decode cX8_readsText 140 = .ok (.iconst 3, 1) := by decide +kernel
theorem dX8_readsText_141 : decode cX8_readsText 141 = .ok (.aload_n 0, 1) := by decide +kernel
theorem dX8_readsText_142 : decode cX8_readsText 142 = .ok (.getfield 159, 3) := by decide +kernel
theorem dX8_readsText_145 : decode cX8_readsText 145 = .ok (.imul, 1) := by decide +kernel
theorem dX8_readsText_146 : decode cX8_readsText 146 = .ok (.iconst 1, 1) := by decide +kernel
theorem dX8_readsText_147 : decode cX8_readsText 147 = .ok (.iadd, 1) := by decide +kernel
theorem dX8_readsText_148 : decode cX8_readsText 148 = .ok (.iload 5, 2) := by decide +kernel
theorem dX8_readsText_150 : decode cX8_readsText 150 = .ok (.iastore, 1) := by decide +kernel
theorem dX8_readsText_151 : decode cX8_readsText 151 = .ok (.aload_n 0, 1) := by decide +kernel
theorem dX8_readsText_152 : decode cX8_readsText 152 = .ok (.getfield 38, 3) := by decide +kernel
theorem dX8_readsText_155 : decode cX8_readsText 155 = .ok (.iconst 3, 1) := by decide +kernel
theorem dX8_readsText_156 : decode cX8_readsText 156 = .ok (.aload_n 0, 1) := by decide +kernel
theorem dX8_readsText_157 : decode cX8_readsText 157 = .ok (.getfield 159, 3) := by decide +kernel
theorem dX8_readsText_160 : decode cX8_readsText 160 = .ok (.imul, 1) := by decide +kernel
theorem dX8_readsText_161 : decode cX8_readsText 161 = .ok (.iconst 2, 1) := by decide +kernel
theorem dX8_readsText_162 : decode cX8_readsText 162 = .ok (.iadd, 1) := by decide +kernel
theorem dX8_readsText_163 : decode cX8_readsText 163 = .ok (.iload_n 2, 1) := by decide +kernel
theorem dX8_readsText_164 : decode cX8_readsText 164 = .ok (.ifCond .eq 7, 3) := by decide +kernel
theorem dX8_readsText_167 : decode cX8_readsText 167 = .ok (.iconst 1, 1) := by decide +kernel
theorem dX8_readsText_168 : decode cX8_readsText 168 = .ok (.goto 4, 3) := by decide +kernel
theorem dX8_readsText_171 : decode cX8_readsText 171 = .ok (.iconst 0, 1) := by decide +kernel
theorem dX8_readsText_172 : decode cX8_readsText 172 = .ok (.iastore, 1) := by decide +kernel
theorem dX8_readsText_173 : decode cX8_readsText 173 = .ok (.aload_n 0, 1) := by decide +kernel
theorem dX8_readsText_174 : decode cX8_readsText 174 = .ok (.dup, 1) := by decide +kernel
theorem dX8_readsText_175 : decode cX8_readsText 175 = .ok (.getfield 159, 3) := by decide +kernel
theorem dX8_readsText_178 : decode cX8_readsText 178 = .ok (.iconst 1, 1) := by decide +kernel
theorem dX8_readsText_179 : decode cX8_readsText 179 = .ok (.iadd, 1) := by decide +kernel
theorem dX8_readsText_180 : decode cX8_readsText 180 = .ok (.putfield 159, 3) := by decide +kernel
theorem dX8_readsText_183 : decode cX8_readsText 183 = .ok (.aload_n 0, 1) := by decide +kernel
theorem dX8_readsText_184 : decode cX8_readsText 184 = .ok (.invokevirtual 162, 3) := by decide +kernel
theorem dX8_readsText_187 : decode cX8_readsText 187 = .ok (.istore 6, 2) := by decide +kernel
theorem dX8_readsText_189 : decode cX8_readsText 189 = .ok (.aload_n 0, 1) := by decide +kernel
theorem dX8_readsText_190 : decode cX8_readsText 190 = .ok (.bipush 47, 2) := by decide +kernel
theorem dX8_readsText_192 : decode cX8_readsText 192 = .ok (.invokevirtual 156, 3) := by decide +kernel
theorem dX8_readsText_195 : decode cX8_readsText 195 = .ok (.istore_n 2, 1) := by decide +kernel
theorem dX8_readsText_196 : decode cX8_readsText 196 = .ok (.aload_n 0, 1) := by decide +kernel
theorem dX8_readsText_197 : decode cX8_readsText 197 = .ok (.dup, 1) := by decide +kernel
theorem dX8_readsText_198 : decode cX8_readsText 198 = .ok (.getfield 153, 3) := by decide +kernel
theorem dX8_readsText_201 : decode cX8_readsText 201 = .ok (.iload_n 2, 1) := by decide +kernel
theorem dX8_readsText_202 : decode cX8_readsText 202 = .ok (.ifCond .eq 7, 3) := by decide +kernel
theorem dX8_readsText_205 : decode cX8_readsText 205 = .ok (.iconst 1, 1) := by decide +kernel
theorem dX8_readsText_206 : decode cX8_readsText 206 = .ok (.goto 4, 3) := by decide +kernel
theorem dX8_readsText_209 : decode cX8_readsText 209 = .ok (.iconst 0, 1) := by decide +kernel
theorem dX8_readsText_210 : decode cX8_readsText 210 = .ok (.iadd, 1) := by decide +kernel
theorem dX8_readsText_211 : decode cX8_readsText 211 = .ok (.putfield 153, 3) := by decide +kernel
theorem dX8_readsText_214 : decode cX8_readsText 214 = .ok (.aload_n 0, 1) := by decide +kernel
theorem dX8_readsText_215 : decode cX8_readsText 215 = .ok (.invokevirtual 162, 3) := by decide +kernel
theorem dX8_readsText_218 : decode cX8_readsText 218 = .ok (.istore_n 1, 1) := by decide +kernel
theorem dX8_readsText_219 : decode cX8_readsText 219 = .ok (.iload_n 2, 1) := by decide +kernel
theorem dX8_readsText_220 : decode cX8_readsText 220 = .ok (.ifCond .eq 16, 3) := by decide +kernel
theorem dX8_readsText_223 : decode cX8_readsText 223 = .ok (.aload_n 0, 1) := by decide +kernel
theorem dX8_readsText_224 : decode cX8_readsText 224 = .ok (.getfield 153, 3) := by decide +kernel
theorem dX8_readsText_227 : decode cX8_readsText 227 = .ok (.aload_n 0, 1) := by decide +kernel
theorem dX8_readsText_228 : decode cX8_readsText 228 = .ok (.getfield 150, 3) := by decide +kernel
theorem dX8_readsText_231 : decode cX8_readsText 231 = .ok (.if_icmp .ne 5, 3) := by decide +kernel
theorem dX8_readsText_234 : decode cX8_readsText 234 = .ok (.iconst 0, 1) := by decide +kernel
theorem dX8_readsText_235 : decode cX8_readsText 235 = .ok (.ireturn, 1) := by decide +kernel
theorem dX8_readsText_236 : decode cX8_readsText 236 = .ok (.aload_n 0, 1) := by decide +kernel
theorem dX8_readsText_237 : decode cX8_readsText 237 = .ok (.getfield 153, 3) := by decide +kernel
theorem dX8_readsText_240 : decode cX8_readsText 240 = .ok (.aload_n 0, 1) := by decide +kernel
theorem dX8_readsText_241 : decode cX8_readsText 241 = .ok (.getfield 150, 3) := by decide +kernel
theorem dX8_readsText_244 : decode cX8_readsText 244 = .ok (.if_icmp .ge 7, 3) := by decide +kernel
theorem dX8_readsText_247 : decode cX8_readsText 247 = .ok (.iconst 1, 1) := by decide +kernel
theorem dX8_readsText_248 : decode cX8_readsText 248 = .ok (.goto 4, 3) := by decide +kernel
theorem dX8_readsText_251 : decode cX8_readsText 251 = .ok (.iconst 0, 1) := by decide +kernel
theorem dX8_readsText_252 : decode cX8_readsText 252 = .ok (.istore_n 3, 1) := by decide +kernel
theorem dX8_readsText_253 : decode cX8_readsText 253 = .ok (.iload_n 3, 1) := by decide +kernel
theorem dX8_readsText_254 : decode cX8_readsText 254 = .ok (.ifCond .eq 14, 3) := by decide +kernel
theorem dX8_readsText_257 : decode cX8_readsText 257 = .ok (.iload 6, 2) := by decide +kernel
theorem dX8_readsText_259 : decode cX8_readsText 259 = .ok (.ifCond .ne 9, 3) := by decide +kernel
theorem dX8_readsText_262 : decode cX8_readsText 262 = .ok (.iload_n 2, 1) := by decide +kernel
theorem dX8_readsText_263 : decode cX8_readsText 263 = .ok (.ifCond .ne 5, 3) := by decide +kernel
theorem dX8_readsText_266 : decode cX8_readsText 266 = .ok (.iconst 0, 1) := by decide +kernel
theorem dX8_readsText_267 : decode cX8_readsText 267 = .ok (.ireturn, 1) := by decide +kernel
theorem dX8_readsText_268 : decode cX8_readsText 268 = .ok (.goto (-234), 3) := by decide +kernel
theorem dX8_readsText_271 : decode cX8_readsText 271 = .ok (.iconst 1, 1) := by decide +kernel
theorem dX8_readsText_272 : decode cX8_readsText 272 = .ok (.ireturn, 1) := by decide +kernel
theorem dX8_textFault_0 : decode cX8_textFault 0 = .ok (.aload_n 0, 1) := by decide +kernel
theorem dX8_textFault_1 : decode cX8_textFault 1 = .ok (.invokevirtual 169, 3) := by decide +kernel
theorem dX8_textFault_4 : decode cX8_textFault 4 = .ok (.ifCond .eq 7, 3) := by decide +kernel
theorem dX8_textFault_7 : decode cX8_textFault 7 = .ok (.iconst (-1), 1) := by decide +kernel
theorem dX8_textFault_8 : decode cX8_textFault 8 = .ok (.goto 7, 3) := by decide +kernel
theorem dX8_textFault_11 : decode cX8_textFault 11 = .ok (.aload_n 0, 1) := by decide +kernel
theorem dX8_textFault_12 : decode cX8_textFault 12 = .ok (.getfield 153, 3) := by decide +kernel
theorem dX8_textFault_15 : decode cX8_textFault 15 = .ok (.ireturn, 1) := by decide +kernel
theorem dX8_load_0 : decode cX8_load 0 = .ok (.aload_n 0, 1) := by decide +kernel
theorem dX8_load_1 : decode cX8_load 1 = .ok (.invokevirtual 169, 3) := by decide +kernel
theorem dX8_load_4 : decode cX8_load 4 = .ok (.ifCond .ne 6, 3) := by decide +kernel
theorem dX8_load_7 : decode cX8_load 7 = .ok (.bipush (-4), 2) := by decide +kernel
theorem dX8_load_9 : decode cX8_load 9 = .ok (.ireturn, 1) := by decide +kernel
theorem dX8_load_10 : decode cX8_load 10 = .ok (.aload_n 0, 1) := by decide +kernel
theorem dX8_load_11 : decode cX8_load 11 = .ok (.invokevirtual 68, 3) := by decide +kernel
theorem dX8_load_14 : decode cX8_load 14 = .ok (.aload_n 0, 1) := by decide +kernel
theorem dX8_load_15 : decode cX8_load 15 = .ok (.getfield 7, 3) := by decide +kernel
theorem dX8_load_18 : decode cX8_load 18 = .ok (.bipush 31, 2) := by decide +kernel
theorem dX8_load_20 : decode cX8_load 20 = .ok (.aload_n 0, 1) := by decide +kernel
theorem dX8_load_21 : decode cX8_load 21 = .ok (.getfield 159, 3) := by decide +kernel
theorem dX8_load_24 : decode cX8_load 24 = .ok (.iastore, 1) := by decide +kernel
theorem dX8_load_25 : decode cX8_load 25 = .ok (.iconst 0, 1) := by decide +kernel
theorem dX8_load_26 : decode cX8_load 26 = .ok (.istore_n 1, 1) := by decide +kernel
theorem dX8_load_27 : decode cX8_load 27 = .ok (.iload_n 1, 1) := by decide +kernel
theorem dX8_load_28 : decode cX8_load 28 = .ok (.iconst 3, 1) := by decide +kernel
theorem dX8_load_29 : decode cX8_load 29 = .ok (.aload_n 0, 1) := by decide +kernel
theorem dX8_load_30 : decode cX8_load 30 = .ok (.getfield 159, 3) := by decide +kernel
theorem dX8_load_33 : decode cX8_load 33 = .ok (.imul, 1) := by decide +kernel
theorem dX8_load_34 : decode cX8_load 34 = .ok (.if_icmp .ge 24, 3) := by decide +kernel
theorem dX8_load_37 : decode cX8_load 37 = .ok (.aload_n 0, 1) := by decide +kernel
theorem dX8_load_38 : decode cX8_load 38 = .ok (.getfield 7, 3) := by decide +kernel
theorem dX8_load_41 : decode cX8_load 41 = .ok (.bipush 32, 2) := by decide +kernel
theorem dX8_load_43 : decode cX8_load 43 = .ok (.iload_n 1, 1) := by decide +kernel
theorem dX8_load_44 : decode cX8_load 44 = .ok (.iadd, 1) := by decide +kernel
theorem dX8_load_45 : decode cX8_load 45 = .ok (.aload_n 0, 1) := by decide +kernel
theorem dX8_load_46 : decode cX8_load 46 = .ok (.getfield 38, 3) := by decide +kernel
theorem dX8_load_49 : decode cX8_load 49 = .ok (.iload_n 1, 1) := by decide +kernel
theorem dX8_load_50 : decode cX8_load 50 = .ok (.iaload, 1) := by decide +kernel
theorem dX8_load_51 : decode cX8_load 51 = .ok (.iastore, 1) := by decide +kernel
theorem dX8_load_52 : decode cX8_load 52 = .ok (.iinc 1 1, 3) := by decide +kernel
theorem dX8_load_55 : decode cX8_load 55 = .ok (.goto (-28), 3) := by decide +kernel
theorem dX8_load_58 : decode cX8_load 58 = .ok (.aload_n 0, 1) := by decide +kernel
theorem dX8_load_59 : decode cX8_load 59 = .ok (.getfield 159, 3) := by decide +kernel
theorem dX8_load_62 : decode cX8_load 62 = .ok (.ireturn, 1) := by decide +kernel
theorem dX8_undo_0 : decode cX8_undo 0 = .ok (.aload_n 0, 1) := by decide +kernel
theorem dX8_undo_1 : decode cX8_undo 1 = .ok (.getfield 41, 3) := by decide +kernel
theorem dX8_undo_4 : decode cX8_undo 4 = .ok (.ifCond .ne 6, 3) := by decide +kernel
theorem dX8_undo_7 : decode cX8_undo 7 = .ok (.bipush (-4), 2) := by decide +kernel
theorem dX8_undo_9 : decode cX8_undo 9 = .ok (.ireturn, 1) := by decide +kernel
theorem dX8_undo_10 : decode cX8_undo 10 = .ok (.aload_n 0, 1) := by decide +kernel
theorem dX8_undo_11 : decode cX8_undo 11 = .ok (.sipush 257, 3) := by decide +kernel
theorem dX8_undo_14 : decode cX8_undo 14 = .ok (.aload_n 0, 1) := by decide +kernel
theorem dX8_undo_15 : decode cX8_undo 15 = .ok (.getfield 41, 3) := by decide +kernel
theorem dX8_undo_18 : decode cX8_undo 18 = .ok (.imul, 1) := by decide +kernel
theorem dX8_undo_19 : decode cX8_undo 19 = .ok (.iconst 0, 1) := by decide +kernel
theorem dX8_undo_20 : decode cX8_undo 20 = .ok (.invokevirtual 45, 3) := by decide +kernel
theorem dX8_undo_23 : decode cX8_undo 23 = .ok (.aload_n 0, 1) := by decide +kernel
theorem dX8_undo_24 : decode cX8_undo 24 = .ok (.dup, 1) := by decide +kernel
theorem dX8_undo_25 : decode cX8_undo 25 = .ok (.getfield 41, 3) := by decide +kernel
theorem dX8_undo_28 : decode cX8_undo 28 = .ok (.iconst 1, 1) := by decide +kernel
theorem dX8_undo_29 : decode cX8_undo 29 = .ok (.isub, 1) := by decide +kernel
theorem dX8_undo_30 : decode cX8_undo 30 = .ok (.putfield 41, 3) := by decide +kernel
theorem dX8_undo_33 : decode cX8_undo 33 = .ok (.aload_n 0, 1) := by decide +kernel
theorem dX8_undo_34 : decode cX8_undo 34 = .ok (.getfield 41, 3) := by decide +kernel
theorem dX8_undo_37 : decode cX8_undo 37 = .ok (.ireturn, 1) := by decide +kernel
theorem dX8_note_0 : decode cX8_note 0 = .ok (.aload_n 0, 1) := by decide +kernel
theorem dX8_note_1 : decode cX8_note 1 = .ok (.ldc2_w 172, 3) := by decide +kernel
theorem dX8_note_4 : decode cX8_note 4 = .ok (.aload_n 0, 1) := by decide +kernel
theorem dX8_note_5 : decode cX8_note 5 = .ok (.getfield 174, 3) := by decide +kernel
theorem dX8_note_8 : decode cX8_note 8 = .ok (.lmul, 1) := by decide +kernel
theorem dX8_note_9 : decode cX8_note 9 = .ok (.lload_n 1, 1) := by decide +kernel
theorem dX8_note_10 : decode cX8_note 10 = .ok (.ladd, 1) := by decide +kernel
theorem dX8_note_11 : decode cX8_note 11 = .ok (.putfield 174, 3) := by decide +kernel
theorem dX8_note_14 : decode cX8_note 14 = .ok (.return_, 1) := by decide +kernel
theorem dX8_digest_0 : decode cX8_digest 0 = .ok (.aload_n 0, 1) := by decide +kernel
theorem dX8_digest_1 : decode cX8_digest 1 = .ok (.ldc2_w 178, 3) := by decide +kernel
theorem dX8_digest_4 : decode cX8_digest 4 = .ok (.putfield 174, 3) := by decide +kernel
theorem dX8_digest_7 : decode cX8_digest 7 = .ok (.iconst 0, 1) := by decide +kernel
theorem dX8_digest_8 : decode cX8_digest 8 = .ok (.istore_n 1, 1) := by decide +kernel
theorem dX8_digest_9 : decode cX8_digest 9 = .ok (.iload_n 1, 1) := by decide +kernel
theorem dX8_digest_10 : decode cX8_digest 10 = .ok (.bipush 12, 2) := by decide +kernel
theorem dX8_digest_12 : decode cX8_digest 12 = .ok (.if_icmp .ge 19, 3) := by decide +kernel
theorem dX8_digest_15 : decode cX8_digest 15 = .ok (.aload_n 0, 1) := by decide +kernel
theorem dX8_digest_16 : decode cX8_digest 16 = .ok (.aload_n 0, 1) := by decide +kernel
theorem dX8_digest_17 : decode cX8_digest 17 = .ok (.iload_n 1, 1) := by decide +kernel
theorem dX8_digest_18 : decode cX8_digest 18 = .ok (.invokevirtual 180, 3) := by decide +kernel
theorem dX8_digest_21 : decode cX8_digest 21 = .ok (.i2l, 1) := by decide +kernel
theorem dX8_digest_22 : decode cX8_digest 22 = .ok (.invokevirtual 183, 3) := by decide +kernel
theorem dX8_digest_25 : decode cX8_digest 25 = .ok (.iinc 1 1, 3) := by decide +kernel
theorem dX8_digest_28 : decode cX8_digest 28 = .ok (.goto (-19), 3) := by decide +kernel
theorem dX8_digest_31 : decode cX8_digest 31 = .ok (.aload_n 0, 1) := by decide +kernel
theorem dX8_digest_32 : decode cX8_digest 32 = .ok (.invokevirtual 83, 3) := by decide +kernel
theorem dX8_digest_35 : decode cX8_digest 35 = .ok (.iconst 0, 1) := by decide +kernel
theorem dX8_digest_36 : decode cX8_digest 36 = .ok (.istore_n 1, 1) := by decide +kernel
theorem dX8_digest_37 : decode cX8_digest 37 = .ok (.iload_n 1, 1) := by decide +kernel
theorem dX8_digest_38 : decode cX8_digest 38 = .ok (.bipush 36, 2) := by decide +kernel
theorem dX8_digest_40 : decode cX8_digest 40 = .ok (.if_icmp .ge 31, 3) := by decide +kernel
theorem dX8_digest_43 : decode cX8_digest 43 = .ok (.aload_n 0, 1) := by decide +kernel
theorem dX8_digest_44 : decode cX8_digest 44 = .ok (.aload_n 0, 1) := by decide +kernel
theorem dX8_digest_45 : decode cX8_digest 45 = .ok (.getfield 13, 3) := by decide +kernel
theorem dX8_digest_48 : decode cX8_digest 48 = .ok (.iload_n 1, 1) := by decide +kernel
theorem dX8_digest_49 : decode cX8_digest 49 = .ok (.iaload, 1) := by decide +kernel
theorem dX8_digest_50 : decode cX8_digest 50 = .ok (.i2l, 1) := by decide +kernel
theorem dX8_digest_51 : decode cX8_digest 51 = .ok (.invokevirtual 183, 3) := by decide +kernel
theorem dX8_digest_54 : decode cX8_digest 54 = .ok (.aload_n 0, 1) := by decide +kernel
theorem dX8_digest_55 : decode cX8_digest 55 = .ok (.aload_n 0, 1) := by decide +kernel
theorem dX8_digest_56 : decode cX8_digest 56 = .ok (.getfield 16, 3) := by decide +kernel
theorem dX8_digest_59 : decode cX8_digest 59 = .ok (.iload_n 1, 1) := by decide +kernel
theorem dX8_digest_60 : decode cX8_digest 60 = .ok (.iaload, 1) := by decide +kernel
theorem dX8_digest_61 : decode cX8_digest 61 = .ok (.i2l, 1) := by decide +kernel
theorem dX8_digest_62 : decode cX8_digest 62 = .ok (.invokevirtual 183, 3) := by decide +kernel
theorem dX8_digest_65 : decode cX8_digest 65 = .ok (.iinc 1 1, 3) := by decide +kernel
theorem dX8_digest_68 : decode cX8_digest 68 = .ok (.goto (-31), 3) := by decide +kernel
theorem dX8_digest_71 : decode cX8_digest 71 = .ok (.iconst 0, 1) := by decide +kernel
theorem dX8_digest_72 : decode cX8_digest 72 = .ok (.istore_n 1, 1) := by decide +kernel
theorem dX8_digest_73 : decode cX8_digest 73 = .ok (.iload_n 1, 1) := by decide +kernel
theorem dX8_digest_74 : decode cX8_digest 74 = .ok (.iconst 3, 1) := by decide +kernel
theorem dX8_digest_75 : decode cX8_digest 75 = .ok (.aload_n 0, 1) := by decide +kernel
theorem dX8_digest_76 : decode cX8_digest 76 = .ok (.getfield 7, 3) := by decide +kernel
theorem dX8_digest_79 : decode cX8_digest 79 = .ok (.bipush 31, 2) := by decide +kernel
theorem dX8_digest_81 : decode cX8_digest 81 = .ok (.iaload, 1) := by decide +kernel
theorem dX8_digest_82 : decode cX8_digest 82 = .ok (.imul, 1) := by decide +kernel
theorem dX8_digest_83 : decode cX8_digest 83 = .ok (.if_icmp .ge 23, 3) := by decide +kernel
theorem dX8_digest_86 : decode cX8_digest 86 = .ok (.aload_n 0, 1) := by decide +kernel
theorem dX8_digest_87 : decode cX8_digest 87 = .ok (.aload_n 0, 1) := by decide +kernel
theorem dX8_digest_88 : decode cX8_digest 88 = .ok (.getfield 7, 3) := by decide +kernel
theorem dX8_digest_91 : decode cX8_digest 91 = .ok (.bipush 32, 2) := by decide +kernel
theorem dX8_digest_93 : decode cX8_digest 93 = .ok (.iload_n 1, 1) := by decide +kernel
theorem dX8_digest_94 : decode cX8_digest 94 = .ok (.iadd, 1) := by decide +kernel
theorem dX8_digest_95 : decode cX8_digest 95 = .ok (.iaload, 1) := by decide +kernel
theorem dX8_digest_96 : decode cX8_digest 96 = .ok (.i2l, 1) := by decide +kernel
theorem dX8_digest_97 : decode cX8_digest 97 = .ok (.invokevirtual 183, 3) := by decide +kernel
theorem dX8_digest_100 : decode cX8_digest 100 = .ok (.iinc 1 1, 3) := by decide +kernel
theorem dX8_digest_103 : decode cX8_digest 103 = .ok (.goto (-30), 3) := by decide +kernel
theorem dX8_digest_106 : decode cX8_digest 106 = .ok (.iconst 0, 1) := by decide +kernel
theorem dX8_digest_107 : decode cX8_digest 107 = .ok (.istore_n 1, 1) := by decide +kernel
theorem dX8_digest_108 : decode cX8_digest 108 = .ok (.iload_n 1, 1) := by decide +kernel
theorem dX8_digest_109 : decode cX8_digest 109 = .ok (.iconst 5, 1) := by decide +kernel
theorem dX8_digest_110 : decode cX8_digest 110 = .ok (.if_icmp .ge 34, 3) := by decide +kernel
theorem dX8_digest_113 : decode cX8_digest 113 = .ok (.aload_n 0, 1) := by decide +kernel
theorem dX8_digest_114 : decode cX8_digest 114 = .ok (.getfield 7, 3) := by decide +kernel
theorem dX8_digest_117 : decode cX8_digest 117 = .ok (.bipush 82, 2) := by decide +kernel
theorem dX8_digest_119 : decode cX8_digest 119 = .ok (.iaload, 1) := by decide +kernel
theorem dX8_digest_120 : decode cX8_digest 120 = .ok (.iconst 1, 1) := by decide +kernel
theorem dX8_digest_121 : decode cX8_digest 121 = .ok (.if_icmp .ne 23, 3) := by decide +kernel
theorem dX8_digest_124 : decode cX8_digest 124 = .ok (.aload_n 0, 1) := by decide +kernel
theorem dX8_digest_125 : decode cX8_digest 125 = .ok (.aload_n 0, 1) := by decide +kernel
theorem dX8_digest_126 : decode cX8_digest 126 = .ok (.getfield 7, 3) := by decide +kernel
theorem dX8_digest_129 : decode cX8_digest 129 = .ok (.bipush 83, 2) := by decide +kernel
theorem dX8_digest_131 : decode cX8_digest 131 = .ok (.iload_n 1, 1) := by decide +kernel
theorem dX8_digest_132 : decode cX8_digest 132 = .ok (.iadd, 1) := by decide +kernel
theorem dX8_digest_133 : decode cX8_digest 133 = .ok (.iaload, 1) := by decide +kernel
theorem dX8_digest_134 : decode cX8_digest 134 = .ok (.i2l, 1) := by decide +kernel
theorem dX8_digest_135 : decode cX8_digest 135 = .ok (.invokevirtual 183, 3) := by decide +kernel
theorem dX8_digest_138 : decode cX8_digest 138 = .ok (.iinc 1 1, 3) := by decide +kernel
theorem dX8_digest_141 : decode cX8_digest 141 = .ok (.goto (-33), 3) := by decide +kernel
theorem dX8_digest_144 : decode cX8_digest 144 = .ok (.iconst 0, 1) := by decide +kernel
theorem dX8_digest_145 : decode cX8_digest 145 = .ok (.istore_n 1, 1) := by decide +kernel
theorem dX8_digest_146 : decode cX8_digest 146 = .ok (.aload_n 0, 1) := by decide +kernel
theorem dX8_digest_147 : decode cX8_digest 147 = .ok (.getfield 7, 3) := by decide +kernel
theorem dX8_digest_150 : decode cX8_digest 150 = .ok (.bipush 82, 2) := by decide +kernel
theorem dX8_digest_152 : decode cX8_digest 152 = .ok (.iaload, 1) := by decide +kernel
theorem dX8_digest_153 : decode cX8_digest 153 = .ok (.iconst 1, 1) := by decide +kernel
theorem dX8_digest_154 : decode cX8_digest 154 = .ok (.if_icmp .ne 37, 3) := by decide +kernel
theorem dX8_digest_157 : decode cX8_digest 157 = .ok (.iload_n 1, 1) := by decide +kernel
theorem dX8_digest_158 : decode cX8_digest 158 = .ok (.bipush 7, 2) := by decide +kernel
theorem dX8_digest_160 : decode cX8_digest 160 = .ok (.aload_n 0, 1) := by decide +kernel
theorem dX8_digest_161 : decode cX8_digest 161 = .ok (.getfield 7, 3) := by decide +kernel
theorem dX8_digest_164 : decode cX8_digest 164 = .ok (.bipush 84, 2) := by decide +kernel
theorem dX8_digest_166 : decode cX8_digest 166 = .ok (.iaload, 1) := by decide +kernel
theorem dX8_digest_167 : decode cX8_digest 167 = .ok (.imul, 1) := by decide +kernel
theorem dX8_digest_168 : decode cX8_digest 168 = .ok (.if_icmp .ge 23, 3) := by decide +kernel
theorem dX8_digest_171 : decode cX8_digest 171 = .ok (.aload_n 0, 1) := by decide +kernel
theorem dX8_digest_172 : decode cX8_digest 172 = .ok (.aload_n 0, 1) := by decide +kernel
theorem dX8_digest_173 : decode cX8_digest 173 = .ok (.getfield 7, 3) := by decide +kernel
theorem dX8_digest_176 : decode cX8_digest 176 = .ok (.bipush 88, 2) := by decide +kernel
theorem dX8_digest_178 : decode cX8_digest 178 = .ok (.iload_n 1, 1) := by decide +kernel
theorem dX8_digest_179 : decode cX8_digest 179 = .ok (.iadd, 1) := by decide +kernel
theorem dX8_digest_180 : decode cX8_digest 180 = .ok (.iaload, 1) := by decide +kernel
theorem dX8_digest_181 : decode cX8_digest 181 = .ok (.i2l, 1) := by decide +kernel
theorem dX8_digest_182 : decode cX8_digest 182 = .ok (.invokevirtual 183, 3) := by decide +kernel
theorem dX8_digest_185 : decode cX8_digest 185 = .ok (.iinc 1 1, 3) := by decide +kernel
theorem dX8_digest_188 : decode cX8_digest 188 = .ok (.goto (-42), 3) := by decide +kernel
theorem dX8_digest_191 : decode cX8_digest 191 = .ok (.iconst 0, 1) := by decide +kernel
theorem dX8_digest_192 : decode cX8_digest 192 = .ok (.istore_n 1, 1) := by decide +kernel
theorem dX8_digest_193 : decode cX8_digest 193 = .ok (.aload_n 0, 1) := by decide +kernel
theorem dX8_digest_194 : decode cX8_digest 194 = .ok (.getfield 7, 3) := by decide +kernel
theorem dX8_digest_197 : decode cX8_digest 197 = .ok (.bipush 82, 2) := by decide +kernel
theorem dX8_digest_199 : decode cX8_digest 199 = .ok (.iaload, 1) := by decide +kernel
theorem dX8_digest_200 : decode cX8_digest 200 = .ok (.iconst 1, 1) := by decide +kernel
theorem dX8_digest_201 : decode cX8_digest 201 = .ok (.if_icmp .ne 38, 3) := by decide +kernel
theorem dX8_digest_204 : decode cX8_digest 204 = .ok (.iload_n 1, 1) := by decide +kernel
theorem dX8_digest_205 : decode cX8_digest 205 = .ok (.iconst 5, 1) := by decide +kernel
theorem dX8_digest_206 : decode cX8_digest 206 = .ok (.aload_n 0, 1) := by decide +kernel
theorem dX8_digest_207 : decode cX8_digest 207 = .ok (.getfield 7, 3) := by decide +kernel
theorem dX8_digest_210 : decode cX8_digest 210 = .ok (.sipush 256, 3) := by decide +kernel
theorem dX8_digest_213 : decode cX8_digest 213 = .ok (.iaload, 1) := by decide +kernel
theorem dX8_digest_214 : decode cX8_digest 214 = .ok (.imul, 1) := by decide +kernel
theorem dX8_digest_215 : decode cX8_digest 215 = .ok (.if_icmp .ge 24, 3) := by decide +kernel
theorem dX8_digest_218 : decode cX8_digest 218 = .ok (.aload_n 0, 1) := by decide +kernel
theorem dX8_digest_219 : decode cX8_digest 219 = .ok (.aload_n 0, 1) := by decide +kernel
theorem dX8_digest_220 : decode cX8_digest 220 = .ok (.getfield 7, 3) := by decide +kernel
theorem dX8_digest_223 : decode cX8_digest 223 = .ok (.sipush 186, 3) := by decide +kernel
theorem dX8_digest_226 : decode cX8_digest 226 = .ok (.iload_n 1, 1) := by decide +kernel
theorem dX8_digest_227 : decode cX8_digest 227 = .ok (.iadd, 1) := by decide +kernel
theorem dX8_digest_228 : decode cX8_digest 228 = .ok (.iaload, 1) := by decide +kernel
theorem dX8_digest_229 : decode cX8_digest 229 = .ok (.i2l, 1) := by decide +kernel
theorem dX8_digest_230 : decode cX8_digest 230 = .ok (.invokevirtual 183, 3) := by decide +kernel
theorem dX8_digest_233 : decode cX8_digest 233 = .ok (.iinc 1 1, 3) := by decide +kernel
theorem dX8_digest_236 : decode cX8_digest 236 = .ok (.goto (-43), 3) := by decide +kernel
theorem dX8_digest_239 : decode cX8_digest 239 = .ok (.aload_n 0, 1) := by decide +kernel
theorem dX8_digest_240 : decode cX8_digest 240 = .ok (.getfield 174, 3) := by decide +kernel
theorem dX8_digest_243 : decode cX8_digest 243 = .ok (.lreturn, 1) := by decide +kernel
theorem dL_law_0 : decode cL_law 0 = .ok (.new 7, 3) := by decide +kernel
theorem dL_law_3 : decode cL_law 3 = .ok (.dup, 1) := by decide +kernel
theorem dL_law_4 : decode cL_law 4 = .ok (.invokespecial 9, 3) := by decide +kernel
theorem dL_law_7 : decode cL_law 7 = .ok (.astore_n 1, 1) := by decide +kernel
theorem dL_law_8 : decode cL_law 8 = .ok (.new 10, 3) := by decide +kernel
theorem dL_law_11 : decode cL_law 11 = .ok (.dup, 1) := by decide +kernel
theorem dL_law_12 : decode cL_law 12 = .ok (.invokespecial 12, 3) := by decide +kernel
theorem dL_law_15 : decode cL_law 15 = .ok (.astore_n 2, 1) := by decide +kernel
theorem dL_law_16 : decode cL_law 16 = .ok (.iconst 0, 1) := by decide +kernel
theorem dL_law_17 : decode cL_law 17 = .ok (.istore_n 3, 1) := by decide +kernel
theorem dL_law_18 : decode cL_law 18 = .ok (.iload_n 3, 1) := by decide +kernel
theorem dL_law_19 : decode cL_law 19 = .ok (.aload_n 0, 1) := by decide +kernel
theorem dL_law_20 : decode cL_law 20 = .ok (.arraylength, 1) := by decide +kernel
theorem dL_law_21 : decode cL_law 21 = .ok (.bipush 6, 2) := by decide +kernel
theorem dL_law_23 : decode cL_law 23 = .ok (.isub, 1) := by decide +kernel
theorem dL_law_24 : decode cL_law 24 = .ok (.if_icmp .gt 916, 3) := by decide +kernel
theorem dL_law_27 : decode cL_law 27 = .ok (.aload_n 0, 1) := by decide +kernel
theorem dL_law_28 : decode cL_law 28 = .ok (.iload_n 3, 1) := by decide +kernel
theorem dL_law_29 : decode cL_law 29 = .ok (.iaload, 1) := by decide +kernel
theorem dL_law_30 : decode cL_law 30 = .ok (.bipush 31, 2) := by decide +kernel
theorem dL_law_32 : decode cL_law 32 = .ok (.iand, 1) := by decide +kernel
theorem dL_law_33 : decode cL_law 33 = .ok (.tableswitch 901 0 26 #[123, 186, 229, 252, 285, 328, 361, 430, 443, 496, 549, 572, 605, 628, 641, 664, 687, 710, 723, 746, 779, 812, 835, 848, 861, 874, 887], 123) := by decide +kernel
theorem dL_law_156 : decode cL_law 156 = .ok (.aload_n 1, 1) := by decide +kernel
theorem dL_law_157 : decode cL_law 157 = .ok (.aload_n 0, 1) := by decide +kernel
theorem dL_law_158 : decode cL_law 158 = .ok (.iload_n 3, 1) := by decide +kernel
theorem dL_law_159 : decode cL_law 159 = .ok (.iconst 1, 1) := by decide +kernel
theorem dL_law_160 : decode cL_law 160 = .ok (.iadd, 1) := by decide +kernel
theorem dL_law_161 : decode cL_law 161 = .ok (.iaload, 1) := by decide +kernel
theorem dL_law_162 : decode cL_law 162 = .ok (.aload_n 0, 1) := by decide +kernel
theorem dL_law_163 : decode cL_law 163 = .ok (.iload_n 3, 1) := by decide +kernel
theorem dL_law_164 : decode cL_law 164 = .ok (.iconst 2, 1) := by decide +kernel
theorem dL_law_165 : decode cL_law 165 = .ok (.iadd, 1) := by decide +kernel
theorem dL_law_166 : decode cL_law 166 = .ok (.iaload, 1) := by decide +kernel
theorem dL_law_167 : decode cL_law 167 = .ok (.aload_n 0, 1) := by decide +kernel
theorem dL_law_168 : decode cL_law 168 = .ok (.iload_n 3, 1) := by decide +kernel
theorem dL_law_169 : decode cL_law 169 = .ok (.iconst 3, 1) := by decide +kernel
theorem dL_law_170 : decode cL_law 170 = .ok (.iadd, 1) := by decide +kernel
theorem dL_law_171 : decode cL_law 171 = .ok (.iaload, 1) := by decide +kernel
theorem dL_law_172 : decode cL_law 172 = .ok (.aload_n 0, 1) := by decide +kernel
theorem dL_law_173 : decode cL_law 173 = .ok (.iload_n 3, 1) := by decide +kernel
theorem dL_law_174 : decode cL_law 174 = .ok (.iconst 4, 1) := by decide +kernel
theorem dL_law_175 : decode cL_law 175 = .ok (.iadd, 1) := by decide +kernel
theorem dL_law_176 : decode cL_law 176 = .ok (.iaload, 1) := by decide +kernel
theorem dL_law_177 : decode cL_law 177 = .ok (.aload_n 0, 1) := by decide +kernel
theorem dL_law_178 : decode cL_law 178 = .ok (.iload_n 3, 1) := by decide +kernel
theorem dL_law_179 : decode cL_law 179 = .ok (.iconst 5, 1) := by decide +kernel
theorem dL_law_180 : decode cL_law 180 = .ok (.iadd, 1) := by decide +kernel
theorem dL_law_181 : decode cL_law 181 = .ok (.iaload, 1) := by decide +kernel
theorem dL_law_182 : decode cL_law 182 = .ok (.invokevirtual 13, 3) := by decide +kernel
theorem dL_law_185 : decode cL_law 185 = .ok (.aload_n 2, 1) := by decide +kernel
theorem dL_law_186 : decode cL_law 186 = .ok (.aload_n 0, 1) := by decide +kernel
theorem dL_law_187 : decode cL_law 187 = .ok (.iload_n 3, 1) := by decide +kernel
theorem dL_law_188 : decode cL_law 188 = .ok (.iconst 1, 1) := by decide +kernel
theorem dL_law_189 : decode cL_law 189 = .ok (.iadd, 1) := by decide +kernel
theorem dL_law_190 : decode cL_law 190 = .ok (.iaload, 1) := by decide +kernel
theorem dL_law_191 : decode cL_law 191 = .ok (.aload_n 0, 1) := by decide +kernel
theorem dL_law_192 : decode cL_law 192 = .ok (.iload_n 3, 1) := by decide +kernel
theorem dL_law_193 : decode cL_law 193 = .ok (.iconst 2, 1) := by decide +kernel
theorem dL_law_194 : decode cL_law 194 = .ok (.iadd, 1) := by decide +kernel
theorem dL_law_195 : decode cL_law 195 = .ok (.iaload, 1) := by decide +kernel
theorem dL_law_196 : decode cL_law 196 = .ok (.aload_n 0, 1) := by decide +kernel
theorem dL_law_197 : decode cL_law 197 = .ok (.iload_n 3, 1) := by decide +kernel
theorem dL_law_198 : decode cL_law 198 = .ok (.iconst 3, 1) := by decide +kernel
theorem dL_law_199 : decode cL_law 199 = .ok (.iadd, 1) := by decide +kernel
theorem dL_law_200 : decode cL_law 200 = .ok (.iaload, 1) := by decide +kernel
theorem dL_law_201 : decode cL_law 201 = .ok (.aload_n 0, 1) := by decide +kernel
theorem dL_law_202 : decode cL_law 202 = .ok (.iload_n 3, 1) := by decide +kernel
theorem dL_law_203 : decode cL_law 203 = .ok (.iconst 4, 1) := by decide +kernel
theorem dL_law_204 : decode cL_law 204 = .ok (.iadd, 1) := by decide +kernel
theorem dL_law_205 : decode cL_law 205 = .ok (.iaload, 1) := by decide +kernel
theorem dL_law_206 : decode cL_law 206 = .ok (.aload_n 0, 1) := by decide +kernel
theorem dL_law_207 : decode cL_law 207 = .ok (.iload_n 3, 1) := by decide +kernel
theorem dL_law_208 : decode cL_law 208 = .ok (.iconst 5, 1) := by decide +kernel
theorem dL_law_209 : decode cL_law 209 = .ok (.iadd, 1) := by decide +kernel
theorem dL_law_210 : decode cL_law 210 = .ok (.iaload, 1) := by decide +kernel
theorem dL_law_211 : decode cL_law 211 = .ok (.invokevirtual 17, 3) := by decide +kernel
theorem dL_law_214 : decode cL_law 214 = .ok (.if_icmp .eq 720, 3) := by decide +kernel
theorem dL_law_217 : decode cL_law 217 = .ok (.iconst 0, 1) := by decide +kernel
theorem dL_law_218 : decode cL_law 218 = .ok (.ireturn, 1) := by decide +kernel
theorem dL_law_219 : decode cL_law 219 = .ok (.aload_n 1, 1) := by decide +kernel
theorem dL_law_220 : decode cL_law 220 = .ok (.aload_n 0, 1) := by decide +kernel
theorem dL_law_221 : decode cL_law 221 = .ok (.iload_n 3, 1) := by decide +kernel
theorem dL_law_222 : decode cL_law 222 = .ok (.iconst 1, 1) := by decide +kernel
theorem dL_law_223 : decode cL_law 223 = .ok (.iadd, 1) := by decide +kernel
theorem dL_law_224 : decode cL_law 224 = .ok (.iaload, 1) := by decide +kernel
theorem dL_law_225 : decode cL_law 225 = .ok (.aload_n 0, 1) := by decide +kernel
theorem dL_law_226 : decode cL_law 226 = .ok (.iload_n 3, 1) := by decide +kernel
theorem dL_law_227 : decode cL_law 227 = .ok (.iconst 2, 1) := by decide +kernel
theorem dL_law_228 : decode cL_law 228 = .ok (.iadd, 1) := by decide +kernel
theorem dL_law_229 : decode cL_law 229 = .ok (.iaload, 1) := by decide +kernel
theorem dL_law_230 : decode cL_law 230 = .ok (.aload_n 0, 1) := by decide +kernel
theorem dL_law_231 : decode cL_law 231 = .ok (.iload_n 3, 1) := by decide +kernel
theorem dL_law_232 : decode cL_law 232 = .ok (.iconst 3, 1) := by decide +kernel
theorem dL_law_233 : decode cL_law 233 = .ok (.iadd, 1) := by decide +kernel
theorem dL_law_234 : decode cL_law 234 = .ok (.iaload, 1) := by decide +kernel
theorem dL_law_235 : decode cL_law 235 = .ok (.invokevirtual 18, 3) := by decide +kernel
theorem dL_law_238 : decode cL_law 238 = .ok (.aload_n 2, 1) := by decide +kernel
theorem dL_law_239 : decode cL_law 239 = .ok (.aload_n 0, 1) := by decide +kernel
theorem dL_law_240 : decode cL_law 240 = .ok (.iload_n 3, 1) := by decide +kernel
theorem dL_law_241 : decode cL_law 241 = .ok (.iconst 1, 1) := by decide +kernel
theorem dL_law_242 : decode cL_law 242 = .ok (.iadd, 1) := by decide +kernel
theorem dL_law_243 : decode cL_law 243 = .ok (.iaload, 1) := by decide +kernel
theorem dL_law_244 : decode cL_law 244 = .ok (.aload_n 0, 1) := by decide +kernel
theorem dL_law_245 : decode cL_law 245 = .ok (.iload_n 3, 1) := by decide +kernel
theorem dL_law_246 : decode cL_law 246 = .ok (.iconst 2, 1) := by decide +kernel
theorem dL_law_247 : decode cL_law 247 = .ok (.iadd, 1) := by decide +kernel
theorem dL_law_248 : decode cL_law 248 = .ok (.iaload, 1) := by decide +kernel
theorem dL_law_249 : decode cL_law 249 = .ok (.aload_n 0, 1) := by decide +kernel
theorem dL_law_250 : decode cL_law 250 = .ok (.iload_n 3, 1) := by decide +kernel
theorem dL_law_251 : decode cL_law 251 = .ok (.iconst 3, 1) := by decide +kernel
theorem dL_law_252 : decode cL_law 252 = .ok (.iadd, 1) := by decide +kernel
theorem dL_law_253 : decode cL_law 253 = .ok (.iaload, 1) := by decide +kernel
theorem dL_law_254 : decode cL_law 254 = .ok (.invokevirtual 22, 3) := by decide +kernel
theorem dL_law_257 : decode cL_law 257 = .ok (.if_icmp .eq 677, 3) := by decide +kernel
theorem dL_law_260 : decode cL_law 260 = .ok (.iconst 0, 1) := by decide +kernel
theorem dL_law_261 : decode cL_law 261 = .ok (.ireturn, 1) := by decide +kernel
theorem dL_law_262 : decode cL_law 262 = .ok (.aload_n 1, 1) := by decide +kernel
theorem dL_law_263 : decode cL_law 263 = .ok (.aload_n 0, 1) := by decide +kernel
theorem dL_law_264 : decode cL_law 264 = .ok (.iload_n 3, 1) := by decide +kernel
theorem dL_law_265 : decode cL_law 265 = .ok (.iconst 1, 1) := by decide +kernel
theorem dL_law_266 : decode cL_law 266 = .ok (.iadd, 1) := by decide +kernel
theorem dL_law_267 : decode cL_law 267 = .ok (.iaload, 1) := by decide +kernel
theorem dL_law_268 : decode cL_law 268 = .ok (.invokevirtual 23, 3) := by decide +kernel
theorem dL_law_271 : decode cL_law 271 = .ok (.aload_n 2, 1) := by decide +kernel
theorem dL_law_272 : decode cL_law 272 = .ok (.aload_n 0, 1) := by decide +kernel
theorem dL_law_273 : decode cL_law 273 = .ok (.iload_n 3, 1) := by decide +kernel
theorem dL_law_274 : decode cL_law 274 = .ok (.iconst 1, 1) := by decide +kernel
theorem dL_law_275 : decode cL_law 275 = .ok (.iadd, 1) := by decide +kernel
theorem dL_law_276 : decode cL_law 276 = .ok (.iaload, 1) := by decide +kernel
theorem dL_law_277 : decode cL_law 277 = .ok (.invokevirtual 27, 3) := by decide +kernel
theorem dL_law_280 : decode cL_law 280 = .ok (.if_icmp .eq 654, 3) := by decide +kernel
theorem dL_law_283 : decode cL_law 283 = .ok (.iconst 0, 1) := by decide +kernel
theorem dL_law_284 : decode cL_law 284 = .ok (.ireturn, 1) := by decide +kernel
theorem dL_law_285 : decode cL_law 285 = .ok (.aload_n 1, 1) := by decide +kernel
theorem dL_law_286 : decode cL_law 286 = .ok (.aload_n 0, 1) := by decide +kernel
theorem dL_law_287 : decode cL_law 287 = .ok (.iload_n 3, 1) := by decide +kernel
theorem dL_law_288 : decode cL_law 288 = .ok (.iconst 1, 1) := by decide +kernel
theorem dL_law_289 : decode cL_law 289 = .ok (.iadd, 1) := by decide +kernel
theorem dL_law_290 : decode cL_law 290 = .ok (.iaload, 1) := by decide +kernel
theorem dL_law_291 : decode cL_law 291 = .ok (.aload_n 0, 1) := by decide +kernel
theorem dL_law_292 : decode cL_law 292 = .ok (.iload_n 3, 1) := by decide +kernel
theorem dL_law_293 : decode cL_law 293 = .ok (.iconst 2, 1) := by decide +kernel
theorem dL_law_294 : decode cL_law 294 = .ok (.iadd, 1) := by decide +kernel
theorem dL_law_295 : decode cL_law 295 = .ok (.iaload, 1) := by decide +kernel
theorem dL_law_296 : decode cL_law 296 = .ok (.invokevirtual 28, 3) := by decide +kernel
theorem dL_law_299 : decode cL_law 299 = .ok (.aload_n 2, 1) := by decide +kernel
theorem dL_law_300 : decode cL_law 300 = .ok (.aload_n 0, 1) := by decide +kernel
theorem dL_law_301 : decode cL_law 301 = .ok (.iload_n 3, 1) := by decide +kernel
theorem dL_law_302 : decode cL_law 302 = .ok (.iconst 1, 1) := by decide +kernel
theorem dL_law_303 : decode cL_law 303 = .ok (.iadd, 1) := by decide +kernel
theorem dL_law_304 : decode cL_law 304 = .ok (.iaload, 1) := by decide +kernel
theorem dL_law_305 : decode cL_law 305 = .ok (.aload_n 0, 1) := by decide +kernel
theorem dL_law_306 : decode cL_law 306 = .ok (.iload_n 3, 1) := by decide +kernel
theorem dL_law_307 : decode cL_law 307 = .ok (.iconst 2, 1) := by decide +kernel
theorem dL_law_308 : decode cL_law 308 = .ok (.iadd, 1) := by decide +kernel
theorem dL_law_309 : decode cL_law 309 = .ok (.iaload, 1) := by decide +kernel
theorem dL_law_310 : decode cL_law 310 = .ok (.invokevirtual 32, 3) := by decide +kernel
theorem dL_law_313 : decode cL_law 313 = .ok (.if_icmp .eq 621, 3) := by decide +kernel
theorem dL_law_316 : decode cL_law 316 = .ok (.iconst 0, 1) := by decide +kernel
theorem dL_law_317 : decode cL_law 317 = .ok (.ireturn, 1) := by decide +kernel
theorem dL_law_318 : decode cL_law 318 = .ok (.aload_n 1, 1) := by decide +kernel
theorem dL_law_319 : decode cL_law 319 = .ok (.aload_n 0, 1) := by decide +kernel
theorem dL_law_320 : decode cL_law 320 = .ok (.iload_n 3, 1) := by decide +kernel
theorem dL_law_321 : decode cL_law 321 = .ok (.iconst 1, 1) := by decide +kernel
theorem dL_law_322 : decode cL_law 322 = .ok (.iadd, 1) := by decide +kernel
theorem dL_law_323 : decode cL_law 323 = .ok (.iaload, 1) := by decide +kernel
theorem dL_law_324 : decode cL_law 324 = .ok (.aload_n 0, 1) := by decide +kernel
theorem dL_law_325 : decode cL_law 325 = .ok (.iload_n 3, 1) := by decide +kernel
theorem dL_law_326 : decode cL_law 326 = .ok (.iconst 2, 1) := by decide +kernel
theorem dL_law_327 : decode cL_law 327 = .ok (.iadd, 1) := by decide +kernel
theorem dL_law_328 : decode cL_law 328 = .ok (.iaload, 1) := by decide +kernel
theorem dL_law_329 : decode cL_law 329 = .ok (.aload_n 0, 1) := by decide +kernel
theorem dL_law_330 : decode cL_law 330 = .ok (.iload_n 3, 1) := by decide +kernel
theorem dL_law_331 : decode cL_law 331 = .ok (.iconst 3, 1) := by decide +kernel
theorem dL_law_332 : decode cL_law 332 = .ok (.iadd, 1) := by decide +kernel
theorem dL_law_333 : decode cL_law 333 = .ok (.iaload, 1) := by decide +kernel
theorem dL_law_334 : decode cL_law 334 = .ok (.invokevirtual 33, 3) := by decide +kernel
theorem dL_law_337 : decode cL_law 337 = .ok (.aload_n 2, 1) := by decide +kernel
theorem dL_law_338 : decode cL_law 338 = .ok (.aload_n 0, 1) := by decide +kernel
theorem dL_law_339 : decode cL_law 339 = .ok (.iload_n 3, 1) := by decide +kernel
theorem dL_law_340 : decode cL_law 340 = .ok (.iconst 1, 1) := by decide +kernel
theorem dL_law_341 : decode cL_law 341 = .ok (.iadd, 1) := by decide +kernel
theorem dL_law_342 : decode cL_law 342 = .ok (.iaload, 1) := by decide +kernel
theorem dL_law_343 : decode cL_law 343 = .ok (.aload_n 0, 1) := by decide +kernel
theorem dL_law_344 : decode cL_law 344 = .ok (.iload_n 3, 1) := by decide +kernel
theorem dL_law_345 : decode cL_law 345 = .ok (.iconst 2, 1) := by decide +kernel
theorem dL_law_346 : decode cL_law 346 = .ok (.iadd, 1) := by decide +kernel
theorem dL_law_347 : decode cL_law 347 = .ok (.iaload, 1) := by decide +kernel
theorem dL_law_348 : decode cL_law 348 = .ok (.aload_n 0, 1) := by decide +kernel
theorem dL_law_349 : decode cL_law 349 = .ok (.iload_n 3, 1) := by decide +kernel
theorem dL_law_350 : decode cL_law 350 = .ok (.iconst 3, 1) := by decide +kernel
theorem dL_law_351 : decode cL_law 351 = .ok (.iadd, 1) := by decide +kernel
theorem dL_law_352 : decode cL_law 352 = .ok (.iaload, 1) := by decide +kernel
theorem dL_law_353 : decode cL_law 353 = .ok (.invokevirtual 36, 3) := by decide +kernel
theorem dL_law_356 : decode cL_law 356 = .ok (.if_icmp .eq 578, 3) := by decide +kernel
theorem dL_law_359 : decode cL_law 359 = .ok (.iconst 0, 1) := by decide +kernel
theorem dL_law_360 : decode cL_law 360 = .ok (.ireturn, 1) := by decide +kernel
theorem dL_law_361 : decode cL_law 361 = .ok (.aload_n 1, 1) := by decide +kernel
theorem dL_law_362 : decode cL_law 362 = .ok (.aload_n 0, 1) := by decide +kernel
theorem dL_law_363 : decode cL_law 363 = .ok (.iload_n 3, 1) := by decide +kernel
theorem dL_law_364 : decode cL_law 364 = .ok (.iconst 1, 1) := by decide +kernel
theorem dL_law_365 : decode cL_law 365 = .ok (.iadd, 1) := by decide +kernel
theorem dL_law_366 : decode cL_law 366 = .ok (.iaload, 1) := by decide +kernel
theorem dL_law_367 : decode cL_law 367 = .ok (.aload_n 0, 1) := by decide +kernel
theorem dL_law_368 : decode cL_law 368 = .ok (.iload_n 3, 1) := by decide +kernel
theorem dL_law_369 : decode cL_law 369 = .ok (.iconst 2, 1) := by decide +kernel
theorem dL_law_370 : decode cL_law 370 = .ok (.iadd, 1) := by decide +kernel
theorem dL_law_371 : decode cL_law 371 = .ok (.iaload, 1) := by decide +kernel
theorem dL_law_372 : decode cL_law 372 = .ok (.invokevirtual 37, 3) := by decide +kernel
theorem dL_law_375 : decode cL_law 375 = .ok (.aload_n 2, 1) := by decide +kernel
theorem dL_law_376 : decode cL_law 376 = .ok (.aload_n 0, 1) := by decide +kernel
theorem dL_law_377 : decode cL_law 377 = .ok (.iload_n 3, 1) := by decide +kernel
theorem dL_law_378 : decode cL_law 378 = .ok (.iconst 1, 1) := by decide +kernel
theorem dL_law_379 : decode cL_law 379 = .ok (.iadd, 1) := by decide +kernel
theorem dL_law_380 : decode cL_law 380 = .ok (.iaload, 1) := by decide +kernel
theorem dL_law_381 : decode cL_law 381 = .ok (.aload_n 0, 1) := by decide +kernel
theorem dL_law_382 : decode cL_law 382 = .ok (.iload_n 3, 1) := by decide +kernel
theorem dL_law_383 : decode cL_law 383 = .ok (.iconst 2, 1) := by decide +kernel
theorem dL_law_384 : decode cL_law 384 = .ok (.iadd, 1) := by decide +kernel
theorem dL_law_385 : decode cL_law 385 = .ok (.iaload, 1) := by decide +kernel
theorem dL_law_386 : decode cL_law 386 = .ok (.invokevirtual 40, 3) := by decide +kernel
theorem dL_law_389 : decode cL_law 389 = .ok (.if_icmp .eq 545, 3) := by decide +kernel
theorem dL_law_392 : decode cL_law 392 = .ok (.iconst 0, 1) := by decide +kernel
theorem dL_law_393 : decode cL_law 393 = .ok (.ireturn, 1) := by decide +kernel
theorem dL_law_394 : decode cL_law 394 = .ok (.aload_n 1, 1) := by decide +kernel
theorem dL_law_395 : decode cL_law 395 = .ok (.aload_n 0, 1) := by decide +kernel
theorem dL_law_396 : decode cL_law 396 = .ok (.iload_n 3, 1) := by decide +kernel
theorem dL_law_397 : decode cL_law 397 = .ok (.iconst 1, 1) := by decide +kernel
theorem dL_law_398 : decode cL_law 398 = .ok (.iadd, 1) := by decide +kernel
theorem dL_law_399 : decode cL_law 399 = .ok (.iaload, 1) := by decide +kernel
theorem dL_law_400 : decode cL_law 400 = .ok (.aload_n 0, 1) := by decide +kernel
theorem dL_law_401 : decode cL_law 401 = .ok (.iload_n 3, 1) := by decide +kernel
theorem dL_law_402 : decode cL_law 402 = .ok (.iconst 2, 1) := by decide +kernel
theorem dL_law_403 : decode cL_law 403 = .ok (.iadd, 1) := by decide +kernel
theorem dL_law_404 : decode cL_law 404 = .ok (.iaload, 1) := by decide +kernel
theorem dL_law_405 : decode cL_law 405 = .ok (.aload_n 0, 1) := by decide +kernel
theorem dL_law_406 : decode cL_law 406 = .ok (.iload_n 3, 1) := by decide +kernel
theorem dL_law_407 : decode cL_law 407 = .ok (.iconst 3, 1) := by decide +kernel
theorem dL_law_408 : decode cL_law 408 = .ok (.iadd, 1) := by decide +kernel
theorem dL_law_409 : decode cL_law 409 = .ok (.iaload, 1) := by decide +kernel
theorem dL_law_410 : decode cL_law 410 = .ok (.aload_n 0, 1) := by decide +kernel
theorem dL_law_411 : decode cL_law 411 = .ok (.iload_n 3, 1) := by decide +kernel
theorem dL_law_412 : decode cL_law 412 = .ok (.iconst 4, 1) := by decide +kernel
theorem dL_law_413 : decode cL_law 413 = .ok (.iadd, 1) := by decide +kernel
theorem dL_law_414 : decode cL_law 414 = .ok (.iaload, 1) := by decide +kernel
theorem dL_law_415 : decode cL_law 415 = .ok (.ifCond .eq 7, 3) := by decide +kernel
theorem dL_law_418 : decode cL_law 418 = .ok (.iconst 1, 1) := by decide +kernel
theorem dL_law_419 : decode cL_law 419 = .ok (.goto 4, 3) := by decide +kernel
theorem dL_law_422 : decode cL_law 422 = .ok (.iconst 0, 1) := by decide +kernel
theorem dL_law_423 : decode cL_law 423 = .ok (.invokevirtual 41, 3) := by decide +kernel
theorem dL_law_426 : decode cL_law 426 = .ok (.aload_n 2, 1) := by decide +kernel
theorem dL_law_427 : decode cL_law 427 = .ok (.aload_n 0, 1) := by decide +kernel
theorem dL_law_428 : decode cL_law 428 = .ok (.iload_n 3, 1) := by decide +kernel
theorem dL_law_429 : decode cL_law 429 = .ok (.iconst 1, 1) := by decide +kernel
theorem dL_law_430 : decode cL_law 430 = .ok (.iadd, 1) := by decide +kernel
theorem dL_law_431 : decode cL_law 431 = .ok (.iaload, 1) := by decide +kernel
theorem dL_law_432 : decode cL_law 432 = .ok (.aload_n 0, 1) := by decide +kernel
theorem dL_law_433 : decode cL_law 433 = .ok (.iload_n 3, 1) := by decide +kernel
theorem dL_law_434 : decode cL_law 434 = .ok (.iconst 2, 1) := by decide +kernel
theorem dL_law_435 : decode cL_law 435 = .ok (.iadd, 1) := by decide +kernel
theorem dL_law_436 : decode cL_law 436 = .ok (.iaload, 1) := by decide +kernel
theorem dL_law_437 : decode cL_law 437 = .ok (.aload_n 0, 1) := by decide +kernel
theorem dL_law_438 : decode cL_law 438 = .ok (.iload_n 3, 1) := by decide +kernel
theorem dL_law_439 : decode cL_law 439 = .ok (.iconst 3, 1) := by decide +kernel
theorem dL_law_440 : decode cL_law 440 = .ok (.iadd, 1) := by decide +kernel
theorem dL_law_441 : decode cL_law 441 = .ok (.iaload, 1) := by decide +kernel
theorem dL_law_442 : decode cL_law 442 = .ok (.aload_n 0, 1) := by decide +kernel
theorem dL_law_443 : decode cL_law 443 = .ok (.iload_n 3, 1) := by decide +kernel
theorem dL_law_444 : decode cL_law 444 = .ok (.iconst 4, 1) := by decide +kernel
theorem dL_law_445 : decode cL_law 445 = .ok (.iadd, 1) := by decide +kernel
theorem dL_law_446 : decode cL_law 446 = .ok (.iaload, 1) := by decide +kernel
theorem dL_law_447 : decode cL_law 447 = .ok (.ifCond .eq 7, 3) := by decide +kernel
theorem dL_law_450 : decode cL_law 450 = .ok (.iconst 1, 1) := by decide +kernel
theorem dL_law_451 : decode cL_law 451 = .ok (.goto 4, 3) := by decide +kernel
theorem dL_law_454 : decode cL_law 454 = .ok (.iconst 0, 1) := by decide +kernel
theorem dL_law_455 : decode cL_law 455 = .ok (.invokevirtual 45, 3) := by decide +kernel
theorem dL_law_458 : decode cL_law 458 = .ok (.if_icmp .eq 476, 3) := by decide +kernel
theorem dL_law_461 : decode cL_law 461 = .ok (.iconst 0, 1) := by decide +kernel
theorem dL_law_462 : decode cL_law 462 = .ok (.ireturn, 1) := by decide +kernel
theorem dL_law_463 : decode cL_law 463 = .ok (.aload_n 1, 1) := by decide +kernel
theorem dL_law_464 : decode cL_law 464 = .ok (.invokevirtual 46, 3) := by decide +kernel
theorem dL_law_467 : decode cL_law 467 = .ok (.aload_n 2, 1) := by decide +kernel
theorem dL_law_468 : decode cL_law 468 = .ok (.invokevirtual 50, 3) := by decide +kernel
theorem dL_law_471 : decode cL_law 471 = .ok (.if_icmp .eq 463, 3) := by decide +kernel
theorem dL_law_474 : decode cL_law 474 = .ok (.iconst 0, 1) := by decide +kernel
theorem dL_law_475 : decode cL_law 475 = .ok (.ireturn, 1) := by decide +kernel
theorem dL_law_476 : decode cL_law 476 = .ok (.aload_n 1, 1) := by decide +kernel
theorem dL_law_477 : decode cL_law 477 = .ok (.aload_n 0, 1) := by decide +kernel
theorem dL_law_478 : decode cL_law 478 = .ok (.iload_n 3, 1) := by decide +kernel
theorem dL_law_479 : decode cL_law 479 = .ok (.iconst 1, 1) := by decide +kernel
theorem dL_law_480 : decode cL_law 480 = .ok (.iadd, 1) := by decide +kernel
theorem dL_law_481 : decode cL_law 481 = .ok (.iaload, 1) := by decide +kernel
theorem dL_law_482 : decode cL_law 482 = .ok (.aload_n 0, 1) := by decide +kernel
theorem dL_law_483 : decode cL_law 483 = .ok (.iload_n 3, 1) := by decide +kernel
theorem dL_law_484 : decode cL_law 484 = .ok (.iconst 2, 1) := by decide +kernel
theorem dL_law_485 : decode cL_law 485 = .ok (.iadd, 1) := by decide +kernel
theorem dL_law_486 : decode cL_law 486 = .ok (.iaload, 1) := by decide +kernel
theorem dL_law_487 : decode cL_law 487 = .ok (.aload_n 0, 1) := by decide +kernel
theorem dL_law_488 : decode cL_law 488 = .ok (.iload_n 3, 1) := by decide +kernel
theorem dL_law_489 : decode cL_law 489 = .ok (.iconst 3, 1) := by decide +kernel
theorem dL_law_490 : decode cL_law 490 = .ok (.iadd, 1) := by decide +kernel
theorem dL_law_491 : decode cL_law 491 = .ok (.iaload, 1) := by decide +kernel
theorem dL_law_492 : decode cL_law 492 = .ok (.aload_n 0, 1) := by decide +kernel
theorem dL_law_493 : decode cL_law 493 = .ok (.iload_n 3, 1) := by decide +kernel
theorem dL_law_494 : decode cL_law 494 = .ok (.iconst 4, 1) := by decide +kernel
theorem dL_law_495 : decode cL_law 495 = .ok (.iadd, 1) := by decide +kernel
theorem dL_law_496 : decode cL_law 496 = .ok (.iaload, 1) := by decide +kernel
theorem dL_law_497 : decode cL_law 497 = .ok (.invokevirtual 51, 3) := by decide +kernel
theorem dL_law_500 : decode cL_law 500 = .ok (.aload_n 2, 1) := by decide +kernel
theorem dL_law_501 : decode cL_law 501 = .ok (.aload_n 0, 1) := by decide +kernel
theorem dL_law_502 : decode cL_law 502 = .ok (.iload_n 3, 1) := by decide +kernel
theorem dL_law_503 : decode cL_law 503 = .ok (.iconst 1, 1) := by decide +kernel
theorem dL_law_504 : decode cL_law 504 = .ok (.iadd, 1) := by decide +kernel
theorem dL_law_505 : decode cL_law 505 = .ok (.iaload, 1) := by decide +kernel
theorem dL_law_506 : decode cL_law 506 = .ok (.aload_n 0, 1) := by decide +kernel
theorem dL_law_507 : decode cL_law 507 = .ok (.iload_n 3, 1) := by decide +kernel
theorem dL_law_508 : decode cL_law 508 = .ok (.iconst 2, 1) := by decide +kernel
theorem dL_law_509 : decode cL_law 509 = .ok (.iadd, 1) := by decide +kernel
theorem dL_law_510 : decode cL_law 510 = .ok (.iaload, 1) := by decide +kernel
theorem dL_law_511 : decode cL_law 511 = .ok (.aload_n 0, 1) := by decide +kernel
theorem dL_law_512 : decode cL_law 512 = .ok (.iload_n 3, 1) := by decide +kernel
theorem dL_law_513 : decode cL_law 513 = .ok (.iconst 3, 1) := by decide +kernel
theorem dL_law_514 : decode cL_law 514 = .ok (.iadd, 1) := by decide +kernel
theorem dL_law_515 : decode cL_law 515 = .ok (.iaload, 1) := by decide +kernel
theorem dL_law_516 : decode cL_law 516 = .ok (.aload_n 0, 1) := by decide +kernel
theorem dL_law_517 : decode cL_law 517 = .ok (.iload_n 3, 1) := by decide +kernel
theorem dL_law_518 : decode cL_law 518 = .ok (.iconst 4, 1) := by decide +kernel
theorem dL_law_519 : decode cL_law 519 = .ok (.iadd, 1) := by decide +kernel
theorem dL_law_520 : decode cL_law 520 = .ok (.iaload, 1) := by decide +kernel
theorem dL_law_521 : decode cL_law 521 = .ok (.invokevirtual 55, 3) := by decide +kernel
theorem dL_law_524 : decode cL_law 524 = .ok (.if_icmp .eq 410, 3) := by decide +kernel
theorem dL_law_527 : decode cL_law 527 = .ok (.iconst 0, 1) := by decide +kernel
theorem dL_law_528 : decode cL_law 528 = .ok (.ireturn, 1) := by decide +kernel
theorem dL_law_529 : decode cL_law 529 = .ok (.aload_n 1, 1) := by decide +kernel
theorem dL_law_530 : decode cL_law 530 = .ok (.aload_n 0, 1) := by decide +kernel
theorem dL_law_531 : decode cL_law 531 = .ok (.iload_n 3, 1) := by decide +kernel
theorem dL_law_532 : decode cL_law 532 = .ok (.iconst 1, 1) := by decide +kernel
theorem dL_law_533 : decode cL_law 533 = .ok (.iadd, 1) := by decide +kernel
theorem dL_law_534 : decode cL_law 534 = .ok (.iaload, 1) := by decide +kernel
theorem dL_law_535 : decode cL_law 535 = .ok (.aload_n 0, 1) := by decide +kernel
theorem dL_law_536 : decode cL_law 536 = .ok (.iload_n 3, 1) := by decide +kernel
theorem dL_law_537 : decode cL_law 537 = .ok (.iconst 2, 1) := by decide +kernel
theorem dL_law_538 : decode cL_law 538 = .ok (.iadd, 1) := by decide +kernel
theorem dL_law_539 : decode cL_law 539 = .ok (.iaload, 1) := by decide +kernel
theorem dL_law_540 : decode cL_law 540 = .ok (.aload_n 0, 1) := by decide +kernel
theorem dL_law_541 : decode cL_law 541 = .ok (.iload_n 3, 1) := by decide +kernel
theorem dL_law_542 : decode cL_law 542 = .ok (.iconst 3, 1) := by decide +kernel
theorem dL_law_543 : decode cL_law 543 = .ok (.iadd, 1) := by decide +kernel
theorem dL_law_544 : decode cL_law 544 = .ok (.iaload, 1) := by decide +kernel
theorem dL_law_545 : decode cL_law 545 = .ok (.aload_n 0, 1) := by decide +kernel
theorem dL_law_546 : decode cL_law 546 = .ok (.iload_n 3, 1) := by decide +kernel
theorem dL_law_547 : decode cL_law 547 = .ok (.iconst 4, 1) := by decide +kernel
theorem dL_law_548 : decode cL_law 548 = .ok (.iadd, 1) := by decide +kernel
theorem dL_law_549 : decode cL_law 549 = .ok (.iaload, 1) := by decide +kernel
theorem dL_law_550 : decode cL_law 550 = .ok (.invokevirtual 56, 3) := by decide +kernel
theorem dL_law_553 : decode cL_law 553 = .ok (.aload_n 2, 1) := by decide +kernel
theorem dL_law_554 : decode cL_law 554 = .ok (.aload_n 0, 1) := by decide +kernel
theorem dL_law_555 : decode cL_law 555 = .ok (.iload_n 3, 1) := by decide +kernel
theorem dL_law_556 : decode cL_law 556 = .ok (.iconst 1, 1) := by decide +kernel
theorem dL_law_557 : decode cL_law 557 = .ok (.iadd, 1) := by decide +kernel
theorem dL_law_558 : decode cL_law 558 = .ok (.iaload, 1) := by decide +kernel
theorem dL_law_559 : decode cL_law 559 = .ok (.aload_n 0, 1) := by decide +kernel
theorem dL_law_560 : decode cL_law 560 = .ok (.iload_n 3, 1) := by decide +kernel
theorem dL_law_561 : decode cL_law 561 = .ok (.iconst 2, 1) := by decide +kernel
theorem dL_law_562 : decode cL_law 562 = .ok (.iadd, 1) := by decide +kernel
theorem dL_law_563 : decode cL_law 563 = .ok (.iaload, 1) := by decide +kernel
theorem dL_law_564 : decode cL_law 564 = .ok (.aload_n 0, 1) := by decide +kernel
theorem dL_law_565 : decode cL_law 565 = .ok (.iload_n 3, 1) := by decide +kernel
theorem dL_law_566 : decode cL_law 566 = .ok (.iconst 3, 1) := by decide +kernel
theorem dL_law_567 : decode cL_law 567 = .ok (.iadd, 1) := by decide +kernel
theorem dL_law_568 : decode cL_law 568 = .ok (.iaload, 1) := by decide +kernel
theorem dL_law_569 : decode cL_law 569 = .ok (.aload_n 0, 1) := by decide +kernel
theorem dL_law_570 : decode cL_law 570 = .ok (.iload_n 3, 1) := by decide +kernel
theorem dL_law_571 : decode cL_law 571 = .ok (.iconst 4, 1) := by decide +kernel
theorem dL_law_572 : decode cL_law 572 = .ok (.iadd, 1) := by decide +kernel
theorem dL_law_573 : decode cL_law 573 = .ok (.iaload, 1) := by decide +kernel
theorem dL_law_574 : decode cL_law 574 = .ok (.invokevirtual 59, 3) := by decide +kernel
theorem dL_law_577 : decode cL_law 577 = .ok (.if_icmp .eq 357, 3) := by decide +kernel
theorem dL_law_580 : decode cL_law 580 = .ok (.iconst 0, 1) := by decide +kernel
theorem dL_law_581 : decode cL_law 581 = .ok (.ireturn, 1) := by decide +kernel
theorem dL_law_582 : decode cL_law 582 = .ok (.aload_n 1, 1) := by decide +kernel
theorem dL_law_583 : decode cL_law 583 = .ok (.aload_n 0, 1) := by decide +kernel
theorem dL_law_584 : decode cL_law 584 = .ok (.iload_n 3, 1) := by decide +kernel
theorem dL_law_585 : decode cL_law 585 = .ok (.iconst 1, 1) := by decide +kernel
theorem dL_law_586 : decode cL_law 586 = .ok (.iadd, 1) := by decide +kernel
theorem dL_law_587 : decode cL_law 587 = .ok (.iaload, 1) := by decide +kernel
theorem dL_law_588 : decode cL_law 588 = .ok (.invokevirtual 60, 3) := by decide +kernel
theorem dL_law_591 : decode cL_law 591 = .ok (.aload_n 2, 1) := by decide +kernel
theorem dL_law_592 : decode cL_law 592 = .ok (.aload_n 0, 1) := by decide +kernel
theorem dL_law_593 : decode cL_law 593 = .ok (.iload_n 3, 1) := by decide +kernel
theorem dL_law_594 : decode cL_law 594 = .ok (.iconst 1, 1) := by decide +kernel
theorem dL_law_595 : decode cL_law 595 = .ok (.iadd, 1) := by decide +kernel
theorem dL_law_596 : decode cL_law 596 = .ok (.iaload, 1) := by decide +kernel
theorem dL_law_597 : decode cL_law 597 = .ok (.invokevirtual 63, 3) := by decide +kernel
theorem dL_law_600 : decode cL_law 600 = .ok (.if_icmp .eq 334, 3) := by decide +kernel
theorem dL_law_603 : decode cL_law 603 = .ok (.iconst 0, 1) := by decide +kernel
theorem dL_law_604 : decode cL_law 604 = .ok (.ireturn, 1) := by decide +kernel
theorem dL_law_605 : decode cL_law 605 = .ok (.aload_n 1, 1) := by decide +kernel
theorem dL_law_606 : decode cL_law 606 = .ok (.aload_n 0, 1) := by decide +kernel
theorem dL_law_607 : decode cL_law 607 = .ok (.iload_n 3, 1) := by decide +kernel
theorem dL_law_608 : decode cL_law 608 = .ok (.iconst 1, 1) := by decide +kernel
theorem dL_law_609 : decode cL_law 609 = .ok (.iadd, 1) := by decide +kernel
theorem dL_law_610 : decode cL_law 610 = .ok (.iaload, 1) := by decide +kernel
theorem dL_law_611 : decode cL_law 611 = .ok (.aload_n 0, 1) := by decide +kernel
theorem dL_law_612 : decode cL_law 612 = .ok (.iload_n 3, 1) := by decide +kernel
theorem dL_law_613 : decode cL_law 613 = .ok (.iconst 2, 1) := by decide +kernel
theorem dL_law_614 : decode cL_law 614 = .ok (.iadd, 1) := by decide +kernel
theorem dL_law_615 : decode cL_law 615 = .ok (.iaload, 1) := by decide +kernel
theorem dL_law_616 : decode cL_law 616 = .ok (.invokevirtual 64, 3) := by decide +kernel
theorem dL_law_619 : decode cL_law 619 = .ok (.aload_n 2, 1) := by decide +kernel
theorem dL_law_620 : decode cL_law 620 = .ok (.aload_n 0, 1) := by decide +kernel
theorem dL_law_621 : decode cL_law 621 = .ok (.iload_n 3, 1) := by decide +kernel
theorem dL_law_622 : decode cL_law 622 = .ok (.iconst 1, 1) := by decide +kernel
theorem dL_law_623 : decode cL_law 623 = .ok (.iadd, 1) := by decide +kernel
theorem dL_law_624 : decode cL_law 624 = .ok (.iaload, 1) := by decide +kernel
theorem dL_law_625 : decode cL_law 625 = .ok (.aload_n 0, 1) := by decide +kernel
theorem dL_law_626 : decode cL_law 626 = .ok (.iload_n 3, 1) := by decide +kernel
theorem dL_law_627 : decode cL_law 627 = .ok (.iconst 2, 1) := by decide +kernel
theorem dL_law_628 : decode cL_law 628 = .ok (.iadd, 1) := by decide +kernel
theorem dL_law_629 : decode cL_law 629 = .ok (.iaload, 1) := by decide +kernel
theorem dL_law_630 : decode cL_law 630 = .ok (.invokevirtual 67, 3) := by decide +kernel
theorem dL_law_633 : decode cL_law 633 = .ok (.if_icmp .eq 301, 3) := by decide +kernel
theorem dL_law_636 : decode cL_law 636 = .ok (.iconst 0, 1) := by decide +kernel
theorem dL_law_637 : decode cL_law 637 = .ok (.ireturn, 1) := by decide +kernel
theorem dL_law_638 : decode cL_law 638 = .ok (.aload_n 1, 1) := by decide +kernel
theorem dL_law_639 : decode cL_law 639 = .ok (.aload_n 0, 1) := by decide +kernel
theorem dL_law_640 : decode cL_law 640 = .ok (.iload_n 3, 1) := by decide +kernel
theorem dL_law_641 : decode cL_law 641 = .ok (.iconst 1, 1) := by decide +kernel
theorem dL_law_642 : decode cL_law 642 = .ok (.iadd, 1) := by decide +kernel
theorem dL_law_643 : decode cL_law 643 = .ok (.iaload, 1) := by decide +kernel
theorem dL_law_644 : decode cL_law 644 = .ok (.invokevirtual 68, 3) := by decide +kernel
theorem dL_law_647 : decode cL_law 647 = .ok (.aload_n 2, 1) := by decide +kernel
theorem dL_law_648 : decode cL_law 648 = .ok (.aload_n 0, 1) := by decide +kernel
theorem dL_law_649 : decode cL_law 649 = .ok (.iload_n 3, 1) := by decide +kernel
theorem dL_law_650 : decode cL_law 650 = .ok (.iconst 1, 1) := by decide +kernel
theorem dL_law_651 : decode cL_law 651 = .ok (.iadd, 1) := by decide +kernel
theorem dL_law_652 : decode cL_law 652 = .ok (.iaload, 1) := by decide +kernel
theorem dL_law_653 : decode cL_law 653 = .ok (.invokevirtual 71, 3) := by decide +kernel
theorem dL_law_656 : decode cL_law 656 = .ok (.if_icmp .eq 278, 3) := by decide +kernel
theorem dL_law_659 : decode cL_law 659 = .ok (.iconst 0, 1) := by decide +kernel
theorem dL_law_660 : decode cL_law 660 = .ok (.ireturn, 1) := by decide +kernel
theorem dL_law_661 : decode cL_law 661 = .ok (.aload_n 1, 1) := by decide +kernel
theorem dL_law_662 : decode cL_law 662 = .ok (.invokevirtual 72, 3) := by decide +kernel
theorem dL_law_665 : decode cL_law 665 = .ok (.aload_n 2, 1) := by decide +kernel
theorem dL_law_666 : decode cL_law 666 = .ok (.invokevirtual 75, 3) := by decide +kernel
theorem dL_law_669 : decode cL_law 669 = .ok (.if_icmp .eq 265, 3) := by decide +kernel
theorem dL_law_672 : decode cL_law 672 = .ok (.iconst 0, 1) := by decide +kernel
theorem dL_law_673 : decode cL_law 673 = .ok (.ireturn, 1) := by decide +kernel
theorem dL_law_674 : decode cL_law 674 = .ok (.aload_n 1, 1) := by decide +kernel
theorem dL_law_675 : decode cL_law 675 = .ok (.aload_n 0, 1) := by decide +kernel
theorem dL_law_676 : decode cL_law 676 = .ok (.iload_n 3, 1) := by decide +kernel
theorem dL_law_677 : decode cL_law 677 = .ok (.iconst 1, 1) := by decide +kernel
theorem dL_law_678 : decode cL_law 678 = .ok (.iadd, 1) := by decide +kernel
theorem dL_law_679 : decode cL_law 679 = .ok (.iaload, 1) := by decide +kernel
theorem dL_law_680 : decode cL_law 680 = .ok (.invokevirtual 76, 3) := by decide +kernel
theorem dL_law_683 : decode cL_law 683 = .ok (.aload_n 2, 1) := by decide +kernel
theorem dL_law_684 : decode cL_law 684 = .ok (.aload_n 0, 1) := by decide +kernel
theorem dL_law_685 : decode cL_law 685 = .ok (.iload_n 3, 1) := by decide +kernel
theorem dL_law_686 : decode cL_law 686 = .ok (.iconst 1, 1) := by decide +kernel
theorem dL_law_687 : decode cL_law 687 = .ok (.iadd, 1) := by decide +kernel
theorem dL_law_688 : decode cL_law 688 = .ok (.iaload, 1) := by decide +kernel
theorem dL_law_689 : decode cL_law 689 = .ok (.invokevirtual 79, 3) := by decide +kernel
theorem dL_law_692 : decode cL_law 692 = .ok (.if_icmp .eq 242, 3) := by decide +kernel
theorem dL_law_695 : decode cL_law 695 = .ok (.iconst 0, 1) := by decide +kernel
theorem dL_law_696 : decode cL_law 696 = .ok (.ireturn, 1) := by decide +kernel
theorem dL_law_697 : decode cL_law 697 = .ok (.aload_n 1, 1) := by decide +kernel
theorem dL_law_698 : decode cL_law 698 = .ok (.aload_n 0, 1) := by decide +kernel
theorem dL_law_699 : decode cL_law 699 = .ok (.iload_n 3, 1) := by decide +kernel
theorem dL_law_700 : decode cL_law 700 = .ok (.iconst 1, 1) := by decide +kernel
theorem dL_law_701 : decode cL_law 701 = .ok (.iadd, 1) := by decide +kernel
theorem dL_law_702 : decode cL_law 702 = .ok (.iaload, 1) := by decide +kernel
theorem dL_law_703 : decode cL_law 703 = .ok (.invokevirtual 80, 3) := by decide +kernel
theorem dL_law_706 : decode cL_law 706 = .ok (.aload_n 2, 1) := by decide +kernel
theorem dL_law_707 : decode cL_law 707 = .ok (.aload_n 0, 1) := by decide +kernel
theorem dL_law_708 : decode cL_law 708 = .ok (.iload_n 3, 1) := by decide +kernel
theorem dL_law_709 : decode cL_law 709 = .ok (.iconst 1, 1) := by decide +kernel
theorem dL_law_710 : decode cL_law 710 = .ok (.iadd, 1) := by decide +kernel
theorem dL_law_711 : decode cL_law 711 = .ok (.iaload, 1) := by decide +kernel
theorem dL_law_712 : decode cL_law 712 = .ok (.invokevirtual 83, 3) := by decide +kernel
theorem dL_law_715 : decode cL_law 715 = .ok (.if_icmp .eq 219, 3) := by decide +kernel
theorem dL_law_718 : decode cL_law 718 = .ok (.iconst 0, 1) := by decide +kernel
theorem dL_law_719 : decode cL_law 719 = .ok (.ireturn, 1) := by decide +kernel
theorem dL_law_720 : decode cL_law 720 = .ok (.aload_n 1, 1) := by decide +kernel
theorem dL_law_721 : decode cL_law 721 = .ok (.aload_n 0, 1) := by decide +kernel
theorem dL_law_722 : decode cL_law 722 = .ok (.iload_n 3, 1) := by decide +kernel
theorem dL_law_723 : decode cL_law 723 = .ok (.iconst 1, 1) := by decide +kernel
theorem dL_law_724 : decode cL_law 724 = .ok (.iadd, 1) := by decide +kernel
theorem dL_law_725 : decode cL_law 725 = .ok (.iaload, 1) := by decide +kernel
theorem dL_law_726 : decode cL_law 726 = .ok (.invokevirtual 84, 3) := by decide +kernel
theorem dL_law_729 : decode cL_law 729 = .ok (.aload_n 2, 1) := by decide +kernel
theorem dL_law_730 : decode cL_law 730 = .ok (.aload_n 0, 1) := by decide +kernel
theorem dL_law_731 : decode cL_law 731 = .ok (.iload_n 3, 1) := by decide +kernel
theorem dL_law_732 : decode cL_law 732 = .ok (.iconst 1, 1) := by decide +kernel
theorem dL_law_733 : decode cL_law 733 = .ok (.iadd, 1) := by decide +kernel
theorem dL_law_734 : decode cL_law 734 = .ok (.iaload, 1) := by decide +kernel
theorem dL_law_735 : decode cL_law 735 = .ok (.invokevirtual 87, 3) := by decide +kernel
theorem dL_law_738 : decode cL_law 738 = .ok (.if_icmp .eq 196, 3) := by decide +kernel
theorem dL_law_741 : decode cL_law 741 = .ok (.iconst 0, 1) := by decide +kernel
theorem dL_law_742 : decode cL_law 742 = .ok (.ireturn, 1) := by decide +kernel
theorem dL_law_743 : decode cL_law 743 = .ok (.aload_n 1, 1) := by decide +kernel
theorem dL_law_744 : decode cL_law 744 = .ok (.invokevirtual 88, 3) := by decide +kernel
theorem dL_law_747 : decode cL_law 747 = .ok (.aload_n 2, 1) := by decide +kernel
theorem dL_law_748 : decode cL_law 748 = .ok (.invokevirtual 91, 3) := by decide +kernel
theorem dL_law_751 : decode cL_law 751 = .ok (.if_icmp .eq 183, 3) := by decide +kernel
theorem dL_law_754 : decode cL_law 754 = .ok (.iconst 0, 1) := by decide +kernel
theorem dL_law_755 : decode cL_law 755 = .ok (.ireturn, 1) := by decide +kernel
theorem dL_law_756 : decode cL_law 756 = .ok (.aload_n 1, 1) := by decide +kernel
theorem dL_law_757 : decode cL_law 757 = .ok (.aload_n 0, 1) := by decide +kernel
theorem dL_law_758 : decode cL_law 758 = .ok (.iload_n 3, 1) := by decide +kernel
theorem dL_law_759 : decode cL_law 759 = .ok (.iconst 1, 1) := by decide +kernel
theorem dL_law_760 : decode cL_law 760 = .ok (.iadd, 1) := by decide +kernel
theorem dL_law_761 : decode cL_law 761 = .ok (.iaload, 1) := by decide +kernel
theorem dL_law_762 : decode cL_law 762 = .ok (.invokevirtual 92, 3) := by decide +kernel
theorem dL_law_765 : decode cL_law 765 = .ok (.aload_n 2, 1) := by decide +kernel
theorem dL_law_766 : decode cL_law 766 = .ok (.aload_n 0, 1) := by decide +kernel
theorem dL_law_767 : decode cL_law 767 = .ok (.iload_n 3, 1) := by decide +kernel
theorem dL_law_768 : decode cL_law 768 = .ok (.iconst 1, 1) := by decide +kernel
theorem dL_law_769 : decode cL_law 769 = .ok (.iadd, 1) := by decide +kernel
theorem dL_law_770 : decode cL_law 770 = .ok (.iaload, 1) := by decide +kernel
theorem dL_law_771 : decode cL_law 771 = .ok (.invokevirtual 95, 3) := by decide +kernel
theorem dL_law_774 : decode cL_law 774 = .ok (.if_icmp .eq 160, 3) := by decide +kernel
theorem dL_law_777 : decode cL_law 777 = .ok (.iconst 0, 1) := by decide +kernel
theorem dL_law_778 : decode cL_law 778 = .ok (.ireturn, 1) := by decide +kernel
theorem dL_law_779 : decode cL_law 779 = .ok (.aload_n 1, 1) := by decide +kernel
theorem dL_law_780 : decode cL_law 780 = .ok (.aload_n 0, 1) := by decide +kernel
theorem dL_law_781 : decode cL_law 781 = .ok (.iload_n 3, 1) := by decide +kernel
theorem dL_law_782 : decode cL_law 782 = .ok (.iconst 1, 1) := by decide +kernel
theorem dL_law_783 : decode cL_law 783 = .ok (.iadd, 1) := by decide +kernel
theorem dL_law_784 : decode cL_law 784 = .ok (.iaload, 1) := by decide +kernel
theorem dL_law_785 : decode cL_law 785 = .ok (.aload_n 0, 1) := by decide +kernel
theorem dL_law_786 : decode cL_law 786 = .ok (.iload_n 3, 1) := by decide +kernel
theorem dL_law_787 : decode cL_law 787 = .ok (.iconst 2, 1) := by decide +kernel
theorem dL_law_788 : decode cL_law 788 = .ok (.iadd, 1) := by decide +kernel
theorem dL_law_789 : decode cL_law 789 = .ok (.iaload, 1) := by decide +kernel
theorem dL_law_790 : decode cL_law 790 = .ok (.invokevirtual 96, 3) := by decide +kernel
theorem dL_law_793 : decode cL_law 793 = .ok (.aload_n 2, 1) := by decide +kernel
theorem dL_law_794 : decode cL_law 794 = .ok (.aload_n 0, 1) := by decide +kernel
theorem dL_law_795 : decode cL_law 795 = .ok (.iload_n 3, 1) := by decide +kernel
theorem dL_law_796 : decode cL_law 796 = .ok (.iconst 1, 1) := by decide +kernel
theorem dL_law_797 : decode cL_law 797 = .ok (.iadd, 1) := by decide +kernel
theorem dL_law_798 : decode cL_law 798 = .ok (.iaload, 1) := by decide +kernel
theorem dL_law_799 : decode cL_law 799 = .ok (.aload_n 0, 1) := by decide +kernel
theorem dL_law_800 : decode cL_law 800 = .ok (.iload_n 3, 1) := by decide +kernel
theorem dL_law_801 : decode cL_law 801 = .ok (.iconst 2, 1) := by decide +kernel
theorem dL_law_802 : decode cL_law 802 = .ok (.iadd, 1) := by decide +kernel
theorem dL_law_803 : decode cL_law 803 = .ok (.iaload, 1) := by decide +kernel
theorem dL_law_804 : decode cL_law 804 = .ok (.invokevirtual 99, 3) := by decide +kernel
theorem dL_law_807 : decode cL_law 807 = .ok (.if_icmp .eq 127, 3) := by decide +kernel
theorem dL_law_810 : decode cL_law 810 = .ok (.iconst 0, 1) := by decide +kernel
theorem dL_law_811 : decode cL_law 811 = .ok (.ireturn, 1) := by decide +kernel
theorem dL_law_812 : decode cL_law 812 = .ok (.aload_n 1, 1) := by decide +kernel
theorem dL_law_813 : decode cL_law 813 = .ok (.aload_n 0, 1) := by decide +kernel
theorem dL_law_814 : decode cL_law 814 = .ok (.iload_n 3, 1) := by decide +kernel
theorem dL_law_815 : decode cL_law 815 = .ok (.iconst 1, 1) := by decide +kernel
theorem dL_law_816 : decode cL_law 816 = .ok (.iadd, 1) := by decide +kernel
theorem dL_law_817 : decode cL_law 817 = .ok (.iaload, 1) := by decide +kernel
theorem dL_law_818 : decode cL_law 818 = .ok (.aload_n 0, 1) := by decide +kernel
theorem dL_law_819 : decode cL_law 819 = .ok (.iload_n 3, 1) := by decide +kernel
theorem dL_law_820 : decode cL_law 820 = .ok (.iconst 2, 1) := by decide +kernel
theorem dL_law_821 : decode cL_law 821 = .ok (.iadd, 1) := by decide +kernel
theorem dL_law_822 : decode cL_law 822 = .ok (.iaload, 1) := by decide +kernel
theorem dL_law_823 : decode cL_law 823 = .ok (.invokevirtual 100, 3) := by decide +kernel
theorem dL_law_826 : decode cL_law 826 = .ok (.aload_n 2, 1) := by decide +kernel
theorem dL_law_827 : decode cL_law 827 = .ok (.aload_n 0, 1) := by decide +kernel
theorem dL_law_828 : decode cL_law 828 = .ok (.iload_n 3, 1) := by decide +kernel
theorem dL_law_829 : decode cL_law 829 = .ok (.iconst 1, 1) := by decide +kernel
theorem dL_law_830 : decode cL_law 830 = .ok (.iadd, 1) := by decide +kernel
theorem dL_law_831 : decode cL_law 831 = .ok (.iaload, 1) := by decide +kernel
theorem dL_law_832 : decode cL_law 832 = .ok (.aload_n 0, 1) := by decide +kernel
theorem dL_law_833 : decode cL_law 833 = .ok (.iload_n 3, 1) := by decide +kernel
theorem dL_law_834 : decode cL_law 834 = .ok (.iconst 2, 1) := by decide +kernel
theorem dL_law_835 : decode cL_law 835 = .ok (.iadd, 1) := by decide +kernel
theorem dL_law_836 : decode cL_law 836 = .ok (.iaload, 1) := by decide +kernel
theorem dL_law_837 : decode cL_law 837 = .ok (.invokevirtual 103, 3) := by decide +kernel
theorem dL_law_840 : decode cL_law 840 = .ok (.if_icmp .eq 94, 3) := by decide +kernel
theorem dL_law_843 : decode cL_law 843 = .ok (.iconst 0, 1) := by decide +kernel
theorem dL_law_844 : decode cL_law 844 = .ok (.ireturn, 1) := by decide +kernel
theorem dL_law_845 : decode cL_law 845 = .ok (.aload_n 1, 1) := by decide +kernel
theorem dL_law_846 : decode cL_law 846 = .ok (.aload_n 0, 1) := by decide +kernel
theorem dL_law_847 : decode cL_law 847 = .ok (.iload_n 3, 1) := by decide +kernel
theorem dL_law_848 : decode cL_law 848 = .ok (.iconst 1, 1) := by decide +kernel
theorem dL_law_849 : decode cL_law 849 = .ok (.iadd, 1) := by decide +kernel
theorem dL_law_850 : decode cL_law 850 = .ok (.iaload, 1) := by decide +kernel
theorem dL_law_851 : decode cL_law 851 = .ok (.invokevirtual 104, 3) := by decide +kernel
theorem dL_law_854 : decode cL_law 854 = .ok (.aload_n 2, 1) := by decide +kernel
theorem dL_law_855 : decode cL_law 855 = .ok (.aload_n 0, 1) := by decide +kernel
theorem dL_law_856 : decode cL_law 856 = .ok (.iload_n 3, 1) := by decide +kernel
theorem dL_law_857 : decode cL_law 857 = .ok (.iconst 1, 1) := by decide +kernel
theorem dL_law_858 : decode cL_law 858 = .ok (.iadd, 1) := by decide +kernel
theorem dL_law_859 : decode cL_law 859 = .ok (.iaload, 1) := by decide +kernel
theorem dL_law_860 : decode cL_law 860 = .ok (.invokevirtual 107, 3) := by decide +kernel
theorem dL_law_863 : decode cL_law 863 = .ok (.if_icmp .eq 71, 3) := by decide +kernel
theorem dL_law_866 : decode cL_law 866 = .ok (.iconst 0, 1) := by decide +kernel
theorem dL_law_867 : decode cL_law 867 = .ok (.ireturn, 1) := by decide +kernel
theorem dL_law_868 : decode cL_law 868 = .ok (.aload_n 1, 1) := by decide +kernel
theorem dL_law_869 : decode cL_law 869 = .ok (.invokevirtual 108, 3) := by decide +kernel
theorem dL_law_872 : decode cL_law 872 = .ok (.aload_n 2, 1) := by decide +kernel
theorem dL_law_873 : decode cL_law 873 = .ok (.invokevirtual 111, 3) := by decide +kernel
theorem dL_law_876 : decode cL_law 876 = .ok (.if_icmp .eq 58, 3) := by decide +kernel
theorem dL_law_879 : decode cL_law 879 = .ok (.iconst 0, 1) := by decide +kernel
theorem dL_law_880 : decode cL_law 880 = .ok (.ireturn, 1) := by decide +kernel
theorem dL_law_881 : decode cL_law 881 = .ok (.aload_n 1, 1) := by decide +kernel
theorem dL_law_882 : decode cL_law 882 = .ok (.invokevirtual 112, 3) := by decide +kernel
theorem dL_law_885 : decode cL_law 885 = .ok (.aload_n 2, 1) := by decide +kernel
theorem dL_law_886 : decode cL_law 886 = .ok (.invokevirtual 115, 3) := by decide +kernel
theorem dL_law_889 : decode cL_law 889 = .ok (.if_icmp .eq 45, 3) := by decide +kernel
theorem dL_law_892 : decode cL_law 892 = .ok (.iconst 0, 1) := by decide +kernel
theorem dL_law_893 : decode cL_law 893 = .ok (.ireturn, 1) := by decide +kernel
theorem dL_law_894 : decode cL_law 894 = .ok (.aload_n 1, 1) := by decide +kernel
theorem dL_law_895 : decode cL_law 895 = .ok (.invokevirtual 116, 3) := by decide +kernel
theorem dL_law_898 : decode cL_law 898 = .ok (.aload_n 2, 1) := by decide +kernel
theorem dL_law_899 : decode cL_law 899 = .ok (.invokevirtual 119, 3) := by decide +kernel
theorem dL_law_902 : decode cL_law 902 = .ok (.if_icmp .eq 32, 3) := by decide +kernel
theorem dL_law_905 : decode cL_law 905 = .ok (.iconst 0, 1) := by decide +kernel
theorem dL_law_906 : decode cL_law 906 = .ok (.ireturn, 1) := by decide +kernel
theorem dL_law_907 : decode cL_law 907 = .ok (.aload_n 1, 1) := by decide +kernel
theorem dL_law_908 : decode cL_law 908 = .ok (.invokevirtual 120, 3) := by decide +kernel
theorem dL_law_911 : decode cL_law 911 = .ok (.aload_n 2, 1) := by decide +kernel
theorem dL_law_912 : decode cL_law 912 = .ok (.invokevirtual 123, 3) := by decide +kernel
theorem dL_law_915 : decode cL_law 915 = .ok (.if_icmp .eq 19, 3) := by decide +kernel
theorem dL_law_918 : decode cL_law 918 = .ok (.iconst 0, 1) := by decide +kernel
theorem dL_law_919 : decode cL_law 919 = .ok (.ireturn, 1) := by decide +kernel
theorem dL_law_920 : decode cL_law 920 = .ok (.aload_n 1, 1) := by decide +kernel
theorem dL_law_921 : decode cL_law 921 = .ok (.invokevirtual 124, 3) := by decide +kernel
theorem dL_law_924 : decode cL_law 924 = .ok (.aload_n 2, 1) := by decide +kernel
theorem dL_law_925 : decode cL_law 925 = .ok (.invokevirtual 128, 3) := by decide +kernel
theorem dL_law_928 : decode cL_law 928 = .ok (.lcmp, 1) := by decide +kernel
theorem dL_law_929 : decode cL_law 929 = .ok (.ifCond .eq 5, 3) := by decide +kernel
theorem dL_law_932 : decode cL_law 932 = .ok (.iconst 0, 1) := by decide +kernel
theorem dL_law_933 : decode cL_law 933 = .ok (.ireturn, 1) := by decide +kernel
theorem dL_law_934 : decode cL_law 934 = .ok (.iinc 3 6, 3) := by decide +kernel
theorem dL_law_937 : decode cL_law 937 = .ok (.goto (-919), 3) := by decide +kernel
theorem dL_law_940 : decode cL_law 940 = .ok (.iconst 1, 1) := by decide +kernel
theorem dL_law_941 : decode cL_law 941 = .ok (.ireturn, 1) := by decide +kernel
end
section
/-! THE MACHINE OF PLACES: a memory of whole numbers over places 0, 1, .. ; place q of it is the cell b + q of the heap. -/
abbrev zMem : Type := List (Nat × Nat) × (Nat → Int → Int) × (Nat → Int → Int64) × (Nat → Int → Option Nat)
def gD (μ : zMem) : List (Nat × Nat) := μ.1
def gI (μ : zMem) : Nat → Int → Int := μ.2.1
def gL (μ : zMem) : Nat → Int → Int64 := μ.2.2.1
def gR (μ : zMem) : Nat → Int → Option Nat := μ.2.2.2
def zu {α : Type} (f : Nat → Int → α) (p : Nat) (i : Int) (v : α) : Nat → Int → α := fun q j => if q = p ∧ j = i then v else f q j
def zf {α : Type} (f : Nat → Int → α) (p : Nat) (g : Int → α) : Nat → Int → α := fun q => if q = p then g else f q
def sI (μ : zMem) (p : Nat) (i : Int) (v : Int) : zMem := (μ.1, zu μ.2.1 p i v, μ.2.2.1, μ.2.2.2)
def sL (μ : zMem) (p : Nat) (i : Int) (v : Int64) : zMem := (μ.1, μ.2.1, zu μ.2.2.1 p i v, μ.2.2.2)
def sR (μ : zMem) (p : Nat) (i : Int) (v : Option Nat) : zMem := (μ.1, μ.2.1, μ.2.2.1, zu μ.2.2.2 p i v)
/-- a new cell of kind k and length n, at the place behind the last -/
def aD (μ : zMem) (k n : Nat) : zMem := (μ.1 ++ [(k, n)], zf μ.2.1 μ.1.length (fun _ => 0), zf μ.2.2.1 μ.1.length (fun _ => 0), zf μ.2.2.2 μ.1.length (fun _ => none))
/-- n numbers of the row p, from i on, to the row q, from j on -/
def cI (μ : zMem) (p : Nat) (i : Int) (q : Nat) (j n : Int) : zMem := (μ.1, zf μ.2.1 q (fun x => if j ≤ x ∧ x < j + n then μ.2.1 p (i + (x - j)) else μ.2.1 q x), μ.2.2.1, μ.2.2.2)
def cL (μ : zMem) (p : Nat) (i : Int) (q : Nat) (j n : Int) : zMem := (μ.1, μ.2.1, zf μ.2.2.1 q (fun x => if j ≤ x ∧ x < j + n then μ.2.2.1 p (i + (x - j)) else μ.2.2.1 q x), μ.2.2.2)
def vi (z : Int) : Value := .int (Int32.ofInt z)
def zIn (z : Int) : Prop := -2147483648 ≤ z ∧ z < 2147483648
/-- places to addresses; a float stands for the law's script -/
def zt (b bs : Nat) : Value → Value
  | .ref q => .ref (b + q)
  | .float _ => .ref bs
  | v => v
def zty (c k : Nat) : FieldType := match c with
  | 0 => tyX0 k
  | 1 => tyX1 k
  | 2 => tyX2 k
  | 3 => tyX3 k
  | 4 => tyX4 k
  | 5 => tyX5 k
  | 6 => tyX6 k
  | 7 => tyX7 k
  | _ => tyX8 k
def zN (c : Nat) : Nat := match c with
  | 0 => 3
  | 1 => 4
  | 2 => 5
  | 3 => 7
  | 4 => 18
  | 5 => 5
  | 6 => 3
  | 7 => 7
  | _ => 20
def zRn (c : Nat) : String := match c with
  | 0 => RX0
  | 1 => RX1
  | 2 => RX2
  | 3 => RX3
  | 4 => RX4
  | 5 => RX5
  | 6 => RX6
  | 7 => RX7
  | _ => RX8
def zTn (c : Nat) : u_T := match c with
  | 0 => TX0
  | 1 => TX1
  | 2 => TX2
  | 3 => TX3
  | 4 => TX4
  | 5 => TX5
  | 6 => TX6
  | 7 => TX7
  | _ => TX8
theorem z9 {P : Nat → Prop} (h0 : P 0) (h1 : P 1) (h2 : P 2) (h3 : P 3) (h4 : P 4) (h5 : P 5) (h6 : P 6) (h7 : P 7) (h8 : P 8) : ∀ c, c < 9 → P c := by
  intro c h
  match c, h with
  | 0, _ => exact h0
  | 1, _ => exact h1
  | 2, _ => exact h2
  | 3, _ => exact h3
  | 4, _ => exact h4
  | 5, _ => exact h5
  | 6, _ => exact h6
  | 7, _ => exact h7
  | 8, _ => exact h8
  | c + 9, h => exact absurd h (by omega)
theorem z_cl : ∀ c, c < 9 → vwCl[c]? = some (zRn c, zTn c, zN c) := z9 rfl rfl rfl rfl rfl rfl rfl rfl rfl
theorem z_ty : ∀ c, c < 9 → ∀ k, k < zN c → parseFieldDescriptor (zTn c k).2.2.1 = some (zty c k) := z9 tyX0_ok tyX1_ok tyX2_ok tyX3_ok tyX4_ok tyX5_ok tyX6_ok tyX7_ok tyX8_ok
theorem z_nm : ∀ c, c < 9 → ∀ a, a < zN c → ∀ b, b < zN c → a ≠ b → (zTn c a).2.1 ≠ (zTn c b).2.1 := z9 nmX0 nmX1 nmX2 nmX3 nmX4 nmX5 nmX6 nmX7 nmX8
def zFv (b : Nat) (ty : FieldType) (fI : Int → Int) (fL : Int → Int64) (fR : Int → Option Nat) (k : Nat) : Value := match ty with
  | .int => vi (fI k)
  | .boolean => vi (fI k)
  | .long => .long (fL k)
  | _ => va_rf ((fR k).map (b + ·))
def zFs (b c : Nat) (fI : Int → Int) (fL : Int → Int64) (fR : Int → Option Nat) : List Value := (List.range (zN c)).map (fun k => zFv b (zty c k) fI fL fR k)
abbrev zG : Type := va_G × ClassId × ClassId × ClassId
def zE (G : zG) (b k n : Nat) (fI : Int → Int) (fL : Int → Int64) (fR : Int → Option Nat) : va_E :=
  if k = 9 then .inl (G.2.1, n, .inl (fun i => Int32.ofInt (fI i)))
  else if k = 10 then .inl (G.2.2.1, n, .inr (.inl (fun i => fL i)))
  else if k = 11 then .inl (G.2.2.2, n, .inr (.inr (.inr (.inr (fun i => (fR i).map (b + ·))))))
  else .inr (k, zFs b k fI fL fR)
/-- the words that stay good over calls; the others one by one -/
def lw_g : List Cond := lw_tbl.filter goodWord
theorem lw_in {w : Cond} (h : w ∈ lw_tbl) (g : goodWord w = true) : w ∈ lw_g := List.mem_filter.mpr ⟨h, g⟩
def lw_n : List Cond := [.methodLinkNest "PosterFitter$State" 11 ⟨"PosterFitter$Canvas", "<init>", "()V"⟩ "PosterFitter", .methodLinkNest "PosterFitter" 33 ⟨"PosterFitter$TextReader", "<init>", "()V"⟩ "PosterFitter", .methodLinkNest "PosterFitter" 40 ⟨"PosterFitter$Search", "<init>", "()V"⟩ "PosterFitter", .methodLinkNest "PosterFitter$Search" 11 ⟨"PosterFitter$Bands", "<init>", "()V"⟩ "PosterFitter", .methodLinkNest "PosterFitter$Search" 20 ⟨"PosterFitter$Measures", "<init>", "()V"⟩ "PosterFitter", .methodLinkNest "PosterFitter$Canvas" 36 ⟨"PosterFitter", "isBox", "(IIII)Z"⟩ "PosterFitter", .methodLinkNest "PosterFitter$TextReader" 42 ⟨"PosterFitter", "isIn", "(III)Z"⟩ "PosterFitter"]
def zNw (U : State) : Prop := (∀ w ∈ lw_n, va_Nw w U) ∧ va_AO RX5 U
def zK (G : zG) (U : State) : Prop := va_K G.1 vwCl [(G.2.1, .int), (G.2.2.1, .long), (G.2.2.2, .object RX5)] U ∧ zNw U
def zR (G : zG) (b : Nat) (μ : zMem) (H : Heap) : Prop := H.size = b + μ.1.length ∧ ∀ (p k n : Nat), μ.1[p]? = some (k, n) → va_at G.1 vwCl (b + p, zE G b k n (gI μ p) (gL μ p) (gR μ p)) H
/-- what stands: references of final fields, and kinds and lengths of the first places -/
abbrev zS : Type := (Nat → Nat → Option Nat) × List (Nat × Nat)
def zSh (S : zS) (μ : zMem) : Prop := (∀ (p k q : Nat), S.1 p k = some q → p < μ.1.length ∧ gR μ p k = some q) ∧ ∀ (p : Nat) (x : Nat × Nat), S.2[p]? = some x → μ.1[p]? = some x
/-- a place's kind and length are known -/
def zH (S : zS) (μ : zMem) (p k n : Nat) : Prop := S.2[p]? = some (k, n) ∨ μ.1[p]? = some (k, n)
theorem zH.at {S : zS} {μ : zMem} {p k n : Nat} (h : zH S μ p k n) (hs : zSh S μ) : μ.1[p]? = some (k, n) := h.elim (hs.2 p _) id
/-- a method: its name, code, locals, answer -/
abbrev zMt : Type := MethodName × ByteArray × Nat × Option FieldType
def zroom (d mc ms : Nat) : Room := { frames := d, cells := mc, slots := ms, locals := 64 * d }
def zL (b bs : Nat) (ls : Array Slot) (nL : Nat) (lo : List (Option Value)) : Prop := ls.size = nL ∧ lv_wf ls ∧ ∀ (i : Nat) (v : Value), lo[i]? = some (some v) → ls[i]? = some (.val (zt b bs v))
/-- which instruction answers what -/
def zOp (ret : Option FieldType) (v : Option Value) (op : Instr) : Prop :=
  (ret = none ∧ v = none ∧ op = .return_) ∨ (∃ z, ret = some .int ∧ v = some (vi z) ∧ op = .ireturn) ∨ (∃ z, ret = some .boolean ∧ (z = 0 ∨ z = 1) ∧ v = some (vi z) ∧ op = .ireturn) ∨
  (∃ z, ret = some .long ∧ v = some (.long z) ∧ op = .lreturn) ∨ (∃ C q, ret = some (.object C) ∧ v = some (.ref q) ∧ op = .areturn)
abbrev zX : Type := Option (Nat × (Nat → Int32))
def zCx (S : zS) (X : zX) (M : zMt) (d mc ms : Nat) (Q : Option Value → zMem → Prop) (p : Program) (l : Launch) (e : Env) (R : Room) (s : State) (m : MethodId) (args : Array Value) (below : List Frame) (meth : Method) (c : Code) (b bs : Nat) (G : zG) (QF : State → Prop) : Prop :=
  p.tables.exec = Jvm.exec ∧ c.code = M.2.1 ∧ c.maxLocals = M.2.2.1 ∧ s.vm.findClass M.1.cls = some m.cls ∧ (∀ w ∈ lw_g, w.before args s = true) ∧ zK G s ∧ (M.1.name = "<init>" → meth.name = "<init>") ∧ b ≤ s.heap.size ∧
  (d ≤ R.frames ∧ 64 * d ≤ R.locals ∧ mc ≤ R.cells ∧ ms ≤ R.slots) ∧ (∀ L f, X = some (L, f) → va_X bs L f s s.heap ∧ bs < s.heap.size ∧ bs < b) ∧
  (∀ (v : Option Value) (μ : zMem) (H : Heap) (locs : List Loc) (ls : Array Slot) (pc : Nat) (op : Instr), decode M.2.1 pc = .ok (op, 1) → zOp M.2.2.2 v op → zSh S μ → zR G b μ H → va_S (fun q => b ≤ q) s.heap H locs → Q v μ → W p l e R s m args below meth c H locs mc ms QF (F0 m pc ls (v.toList.map (zt b bs))))
/-- the machine at pc, with these locals, stack and memory, comes to an answer and a memory with Q -/
def Z (S : zS) (X : zX) (M : zMt) (d mc ms : Nat) (Q : Option Value → zMem → Prop) (pc : Nat) (lo : List (Option Value)) (st : List Value) (μ : zMem) (k n : Nat) : Prop :=
  ∀ (p : Program) (l : Launch) (e : Env) (R : Room) (s : State) (m : MethodId) (args : Array Value) (below : List Frame) (meth : Method) (c : Code) (b bs : Nat) (G : zG) (QF : State → Prop) (H : Heap) (locs : List Loc) (ls : Array Slot),
    zCx S X M d mc ms Q p l e R s m args below meth c b bs G QF → zSh S μ → zR G b μ H → va_S (fun q => b ≤ q) s.heap H locs → zL b bs ls M.2.2.1 lo →
    W p l e R s m args below meth c H locs k n QF (F0 m pc ls (st.map (zt b bs)))
/-- the method, called with these values over this memory, comes to an answer and a memory with Q -/
def Cl (S : zS) (M : zMt) (d mc ms : Nat) (as : List Value) (μ : zMem) (Q : Option Value → zMem → Prop) : Prop :=
  ∀ (l : Launch) (b bs : Nat) (G : zG), Met l M.1 (.code M.1 M.2.1 M.2.2.1 M.2.2.2 :: lw_g) (zroom d mc ms) (va_Pc (as.map (zt b bs)) (fun U => zR G b μ U.heap ∧ zK G U ∧ zSh S μ))
    (fun _ st o t => (∃ (v : Option Value) (μ' : zMem), o = .returned (v.map (zt b bs)) ∧ Q v μ' ∧ zSh S μ' ∧ zR G b μ' t.heap) ∧ va_F (fun q => b ≤ q) st t) mc ms (fun q => b ≤ q)
def qI (Q : Int → zMem → Prop) : Option Value → zMem → Prop := fun v μ => ∃ r, v = some (vi r) ∧ Q r μ
def qL (Q : Int64 → zMem → Prop) : Option Value → zMem → Prop := fun v μ => ∃ r, v = some (.long r) ∧ Q r μ
def qR (Q : Nat → zMem → Prop) : Option Value → zMem → Prop := fun v μ => ∃ r, v = some (.ref r) ∧ Q r μ
def qV (Q : zMem → Prop) : Option Value → zMem → Prop := fun v μ => v = none ∧ Q μ
/-! numbers -/
theorem z_toInt {z : Int} (h : zIn z) : (Int32.ofInt z).toInt = z := Int32.toInt_ofInt_of_le (by have := h.1; omega) (by have := h.2; omega)
theorem z_lt {a b : Int} (ha : zIn a) (hb : zIn b) : Int32.ofInt a < Int32.ofInt b ↔ a < b := by rw [Int32.lt_iff_toInt_lt, z_toInt ha, z_toInt hb]
theorem z_le {a b : Int} (ha : zIn a) (hb : zIn b) : Int32.ofInt a ≤ Int32.ofInt b ↔ a ≤ b := by rw [Int32.le_iff_toInt_le, z_toInt ha, z_toInt hb]
theorem z_eq {a b : Int} (ha : zIn a) (hb : zIn b) : Int32.ofInt a = Int32.ofInt b ↔ a = b := by rw [← Int32.toInt_inj, z_toInt ha, z_toInt hb]
theorem z_in0 : zIn 0 := by unfold zIn; omega
theorem z_ofInt_toInt (x : Int32) : Value.int x = vi x.toInt := by unfold vi; rw [Int32.ofInt_toInt]
theorem z_in_toInt (x : Int32) : zIn x.toInt := ⟨by have := Int32.le_toInt x; omega, by have := Int32.toInt_lt x; omega⟩
theorem z_clamp {i : Int} (h : zIn i) (h0 : 0 ≤ i) : (Int32.ofInt i).toNatClampNeg = i.toNat := by
  show (Int32.ofInt i).toInt.toNat = i.toNat
  rw [z_toInt h]
theorem z_vp {i : Int} {n : Nat} (h : zIn i) (h0 : 0 ≤ i) (h1 : i < n) : vp_in (Int32.ofInt i) n := by
  rw [vp_in_iff, z_toInt h]
  exact ⟨h0, h1⟩
theorem zt_rf (b bs : Nat) (o : Option Nat) : zt b bs (va_rf o) = va_rf (o.map (b + ·)) := by cases o <;> rfl
theorem zt_cat (b bs : Nat) (v : Value) : (zt b bs v).category = v.category := by cases v <;> rfl
end
section
/-! locals -/
def zdl : Option Value → Option Value
  | some (.long _) => none
  | some (.double _) => none
  | o => o
def zst : List (Option Value) → Nat → Value → List (Option Value)
  | [], _, _ => []
  | _ :: l, 0, v => some v :: l
  | o :: l, 1, v => zdl o :: zst l 0 v
  | o :: l, i + 2, v => o :: zst l (i + 1) v
def zst2 : List (Option Value) → Nat → Value → List (Option Value)
  | [], _, _ => []
  | [_], 0, v => [some v]
  | _ :: _ :: l, 0, v => some v :: none :: l
  | o :: l, 1, v => zdl o :: zst2 l 0 v
  | o :: l, i + 2, v => o :: zst2 l (i + 1) v
theorem zdl_at {o : Option Value} {w : Value} (h : zdl o = some w) : o = some w ∧ ¬ w.category = 2 := by
  unfold zdl at h
  split at h
  · cases h
  · cases h
  · rename_i h1 h2
    refine ⟨h, ?_⟩
    subst h
    cases w <;> simp_all [Value.category]
theorem zst_at : ∀ (lo : List (Option Value)) (i j : Nat) (v w : Value), (zst lo i v)[j]? = some (some w) → (j = i ∧ w = v) ∨ (j ≠ i ∧ lo[j]? = some (some w) ∧ (j + 1 = i → ¬ w.category = 2))
  | [], i, j, v, w, h => by simp [zst] at h
  | o :: l, 0, 0, v, w, h => by
    simp [zst] at h
    exact Or.inl ⟨rfl, h.symm⟩
  | o :: l, 0, j + 1, v, w, h => Or.inr ⟨by omega, by simpa [zst] using h, by omega⟩
  | o :: l, 1, 0, v, w, h => by
    simp only [zst, List.getElem?_cons_zero] at h
    have := zdl_at (Option.some.inj h)
    exact Or.inr ⟨by omega, by simp [this.1], fun _ => this.2⟩
  | o :: l, 1, j + 1, v, w, h => by
    simp only [zst, List.getElem?_cons_succ] at h
    rcases zst_at l 0 j v w h with ⟨h1, h2⟩ | ⟨h1, h2, h3⟩
    · exact Or.inl ⟨by omega, h2⟩
    · exact Or.inr ⟨by omega, by simpa using h2, by omega⟩
  | o :: l, i + 2, 0, v, w, h => Or.inr ⟨by omega, by simpa [zst] using h, by omega⟩
  | o :: l, i + 2, j + 1, v, w, h => by
    simp only [zst, List.getElem?_cons_succ] at h
    rcases zst_at l (i + 1) j v w h with ⟨h1, h2⟩ | ⟨h1, h2, h3⟩
    · exact Or.inl ⟨by omega, h2⟩
    · exact Or.inr ⟨by omega, by simpa using h2, fun e => h3 (by omega)⟩
theorem zst2_at : ∀ (lo : List (Option Value)) (i j : Nat) (v w : Value), (zst2 lo i v)[j]? = some (some w) → (j = i ∧ w = v) ∨ (j ≠ i ∧ j ≠ i + 1 ∧ lo[j]? = some (some w) ∧ (j + 1 = i → ¬ w.category = 2))
  | [], i, j, v, w, h => by simp [zst2] at h
  | [o], 0, 0, v, w, h => by
    simp [zst2] at h
    exact Or.inl ⟨rfl, h.symm⟩
  | [o], 0, j + 1, v, w, h => by simp [zst2] at h
  | o :: o2 :: l, 0, 0, v, w, h => by
    simp [zst2] at h
    exact Or.inl ⟨rfl, h.symm⟩
  | o :: o2 :: l, 0, 1, v, w, h => by simp [zst2] at h
  | o :: o2 :: l, 0, j + 2, v, w, h => Or.inr ⟨by omega, by omega, by simpa [zst2] using h, by omega⟩
  | o :: l, 1, 0, v, w, h => by
    simp only [zst2, List.getElem?_cons_zero] at h
    have := zdl_at (Option.some.inj h)
    exact Or.inr ⟨by omega, by omega, by simp [this.1], fun _ => this.2⟩
  | o :: l, 1, j + 1, v, w, h => by
    simp only [zst2, List.getElem?_cons_succ] at h
    rcases zst2_at l 0 j v w h with ⟨h1, h2⟩ | ⟨h1, h2, h3, h4⟩
    · exact Or.inl ⟨by omega, h2⟩
    · exact Or.inr ⟨by omega, by omega, by simpa using h3, by omega⟩
  | o :: l, i + 2, 0, v, w, h => Or.inr ⟨by omega, by omega, by simpa [zst2] using h, by omega⟩
  | o :: l, i + 2, j + 1, v, w, h => by
    simp only [zst2, List.getElem?_cons_succ] at h
    rcases zst2_at l (i + 1) j v w h with ⟨h1, h2⟩ | ⟨h1, h2, h3, h4⟩
    · exact Or.inl ⟨by omega, h2⟩
    · exact Or.inr ⟨by omega, by omega, by simpa using h3, fun e => h4 (by omega)⟩
def zll (b bs : Nat) (lo : List (Option Value)) : List (Nat × Value) := (List.range lo.length).filterMap (fun i => match lo[i]? with
  | some (some v) => some (i, zt b bs v)
  | _ => none)
theorem zll_mem {b bs : Nat} {lo : List (Option Value)} {i : Nat} {v : Value} (h : lo[i]? = some (some v)) : (i, zt b bs v) ∈ zll b bs lo := by
  refine List.mem_filterMap.mpr ⟨i, List.mem_range.mpr (List.getElem?_eq_some_iff.mp h).1, ?_⟩
  simp [h]
theorem zll_has {b bs : Nat} {ls : Array Slot} {nL : Nat} {lo : List (Option Value)} (h : zL b bs ls nL lo) : lv_has ls nL (zll b bs lo) := by
  refine ⟨h.1, h.2.1, fun q hq => ?_⟩
  obtain ⟨i, -, hi⟩ := List.mem_filterMap.mp hq
  split at hi
  · rename_i v hv
    cases hi
    exact h.2.2 i v hv
  · cases hi
theorem zL_st {b bs : Nat} {ls : Array Slot} {nL i : Nat} {lo : List (Option Value)} {v : Value} (h : lv_has ls nL ((i, zt b bs v) :: (zll b bs lo).filter (fun q => !(q.1 == i) && !(q.1 + 1 == i && q.2.category == 2)))) : zL b bs ls nL (zst lo i v) := by
  refine ⟨h.1, h.2.1, fun j w hj => ?_⟩
  rcases zst_at lo i j v w hj with ⟨rfl, rfl⟩ | ⟨h1, h2, h3⟩
  · exact h.2.2 _ List.mem_cons_self
  · refine h.2.2 (j, zt b bs w) (List.mem_cons_of_mem _ (List.mem_filter.mpr ⟨zll_mem h2, ?_⟩))
    simp only [zt_cat, Bool.and_eq_true, Bool.not_eq_true', beq_eq_false_iff_ne, ne_eq, Bool.and_eq_false_iff]
    refine ⟨h1, ?_⟩
    by_cases e : j + 1 = i
    · exact Or.inr (h3 e)
    · exact Or.inl e
theorem zL_st2 {b bs : Nat} {ls : Array Slot} {nL i : Nat} {lo : List (Option Value)} {v : Value} (h : lv_has ls nL ((i, zt b bs v) :: (zll b bs lo).filter (fun q => !(q.1 == i) && (!(q.1 == i + 1) && !(q.1 + 1 == i && q.2.category == 2))))) : zL b bs ls nL (zst2 lo i v) := by
  refine ⟨h.1, h.2.1, fun j w hj => ?_⟩
  rcases zst2_at lo i j v w hj with ⟨rfl, rfl⟩ | ⟨h1, h5, h2, h3⟩
  · exact h.2.2 _ List.mem_cons_self
  · refine h.2.2 (j, zt b bs w) (List.mem_cons_of_mem _ (List.mem_filter.mpr ⟨zll_mem h2, ?_⟩))
    simp only [zt_cat, Bool.and_eq_true, Bool.not_eq_true', beq_eq_false_iff_ne, ne_eq, Bool.and_eq_false_iff]
    refine ⟨h1, h5, ?_⟩
    by_cases e : j + 1 = i
    · exact Or.inr (h3 e)
    · exact Or.inl e
/-- fewer locals -/
def zwk : List Bool → List (Option Value) → List (Option Value)
  | true :: m, o :: l => o :: zwk m l
  | false :: m, _ :: l => none :: zwk m l
  | _, _ => []
theorem zwk_at : ∀ (m : List Bool) (lo : List (Option Value)) (j : Nat) (w : Value), (zwk m lo)[j]? = some (some w) → lo[j]? = some (some w)
  | [], lo, j, w, h => by simp [zwk] at h
  | true :: m, [], j, w, h => by simp [zwk] at h
  | false :: m, [], j, w, h => by simp [zwk] at h
  | true :: m, o :: l, 0, w, h => by simpa [zwk] using h
  | false :: m, o :: l, 0, w, h => by simp [zwk] at h
  | true :: m, o :: l, j + 1, w, h => by
    simp only [zwk, List.getElem?_cons_succ] at h ⊢
    exact zwk_at m l j w h
  | false :: m, o :: l, j + 1, w, h => by
    simp only [zwk, List.getElem?_cons_succ] at h ⊢
    exact zwk_at m l j w h

section ZRules
variable {S : zS} {X : zX} {M : zMt} {d mc ms : Nat} {Q : Option Value → zMem → Prop} {pc pc' tgt : Nat} {lo lo' : List (Option Value)} {st : List Value} {μ : zMem} {k n : Nat}

theorem Z_wk (wm : List Bool) (h : zwk wm lo = lo') (K : Z S X M d mc ms Q pc lo' st μ k n) : Z S X M d mc ms Q pc lo st μ k n := by
  subst h
  intro p l e R s m args below meth c b bs G QF H locs ls C h1 h2 h3 h4
  exact K _ _ _ _ _ _ _ _ _ _ _ _ _ _ _ _ _ C h1 h2 h3 ⟨h4.1, h4.2.1, fun i v h => h4.2.2 i v (zwk_at wm lo i v h)⟩
theorem Z_mono {Q' : Option Value → zMem → Prop} (hq : ∀ v μ, Q v μ → Q' v μ) (K : Z S X M d mc ms Q pc lo st μ k n) : Z S X M d mc ms Q' pc lo st μ k n := by
  intro p l e R s m args below meth c b bs G QF H locs ls C h1 h2 h3 h4
  obtain ⟨c1, c2, c3, c4, c5, c6, c7, c8, c9, c10, c11⟩ := C
  exact K _ _ _ _ _ _ _ _ _ _ _ _ _ _ _ _ _ ⟨c1, c2, c3, c4, c5, c6, c7, c8, c9, c10, fun v μ H locs ls pc op a1 a2 a3 a4 a5 a6 => c11 v μ H locs ls pc op a1 a2 a3 a4 a5 (hq v μ a6)⟩ h1 h2 h3 h4
theorem Z_sh (K : zSh S μ → Z S X M d mc ms Q pc lo st μ k n) : Z S X M d mc ms Q pc lo st μ k n := by
  intro p l e R s m args below meth c b bs G QF H locs ls C h1 h2 h3 h4
  exact K h1 _ _ _ _ _ _ _ _ _ _ _ _ _ _ _ _ _ C h1 h2 h3 h4
theorem Z_iconst {z : Int} (hd : decode M.2.1 pc = .ok (.iconst z, 1)) (hp : pc + 1 = pc') (K : Z S X M d mc ms Q pc' lo (vi z :: st) μ k n) : Z S X M d mc ms Q pc lo (st) μ k n := by
  subst hp
  intro p l e R s m args below meth c b bs G QF H locs ls C h1 h2 h3 h4
  exact lv_iconst C.1 C.2.1 hd rfl (K _ _ _ _ _ _ _ _ _ _ _ _ _ _ _ _ _ C h1 h2 h3 h4)
theorem Z_bipush {z : Int} (hd : decode M.2.1 pc = .ok (.bipush z, 2)) (hp : pc + 2 = pc') (hz : (Int8.ofInt z).toInt32 = Int32.ofInt z) (K : Z S X M d mc ms Q pc' lo (vi z :: st) μ k n) : Z S X M d mc ms Q pc lo (st) μ k n := by
  subst hp
  intro p l e R s m args below meth c b bs G QF H locs ls C h1 h2 h3 h4
  exact lv_bipush C.1 C.2.1 hd hz (K _ _ _ _ _ _ _ _ _ _ _ _ _ _ _ _ _ C h1 h2 h3 h4)
theorem Z_sipush {z : Int} (hd : decode M.2.1 pc = .ok (.sipush z, 3)) (hp : pc + 3 = pc') (hz : (Int16.ofInt z).toInt32 = Int32.ofInt z) (K : Z S X M d mc ms Q pc' lo (vi z :: st) μ k n) : Z S X M d mc ms Q pc lo (st) μ k n := by
  subst hp
  intro p l e R s m args below meth c b bs G QF H locs ls C h1 h2 h3 h4
  exact lv_sipush C.1 C.2.1 hd hz (K _ _ _ _ _ _ _ _ _ _ _ _ _ _ _ _ _ C h1 h2 h3 h4)
theorem Z_lconst {z : Fin 2} {v : Int64} (hd : decode M.2.1 pc = .ok (.lconst z, 1)) (hp : pc + 1 = pc') (hz : Int64.ofNat (z : Nat) = v) (K : Z S X M d mc ms Q pc' lo (.long v :: st) μ k n) : Z S X M d mc ms Q pc lo (st) μ k n := by
  subst hp
  intro p l e R s m args below meth c b bs G QF H locs ls C h1 h2 h3 h4
  exact lv_lconst C.1 C.2.1 hd hz (K _ _ _ _ _ _ _ _ _ _ _ _ _ _ _ _ _ C h1 h2 h3 h4)
theorem Z_ldc {index : Nat} {v : Int32} {z : Int} (hd : decode M.2.1 pc = .ok (.ldc index, 2)) (hp : pc + 2 = pc') (hc : Cond.constant M.1.cls index v ∈ lw_tbl) (hz : Int32.ofInt z = v) (K : Z S X M d mc ms Q pc' lo (vi z :: st) μ k n) : Z S X M d mc ms Q pc lo (st) μ k n := by
  subst hp
  intro p l e R s m args below meth c b bs G QF H locs ls C h1 h2 h3 h4
  subst hz
  exact lv_ldc C.1 C.2.1 C.2.2.2.1 (C.2.2.2.2.1 _ (lw_in hc rfl)) hd (K _ _ _ _ _ _ _ _ _ _ _ _ _ _ _ _ _ C h1 h2 h3 h4)
theorem Z_ldc2 {index : Nat} {v : Int64} (hd : decode M.2.1 pc = .ok (.ldc2_w index, 3)) (hp : pc + 3 = pc') (hc : Cond.constantLong M.1.cls index v ∈ lw_tbl) (K : Z S X M d mc ms Q pc' lo (.long v :: st) μ k n) : Z S X M d mc ms Q pc lo (st) μ k n := by
  subst hp
  intro p l e R s m args below meth c b bs G QF H locs ls C h1 h2 h3 h4
  exact lv_ldc2 C.1 C.2.1 C.2.2.2.1 (C.2.2.2.2.1 _ (lw_in hc rfl)) hd (K _ _ _ _ _ _ _ _ _ _ _ _ _ _ _ _ _ C h1 h2 h3 h4)
theorem Z_null  (hd : decode M.2.1 pc = .ok (.aconst_null, 1)) (hp : pc + 1 = pc') (K : Z S X M d mc ms Q pc' lo (.null :: st) μ k n) : Z S X M d mc ms Q pc lo (st) μ k n := by
  subst hp
  intro p l e R s m args below meth c b bs G QF H locs ls C h1 h2 h3 h4
  exact lv_null C.1 C.2.1 hd (K _ _ _ _ _ _ _ _ _ _ _ _ _ _ _ _ _ C h1 h2 h3 h4)
theorem Z_iload_n {j : Fin 4} {x : Int} (hd : decode M.2.1 pc = .ok (.iload_n j, 1)) (hp : pc + 1 = pc') (hl : lo[(j : Nat)]? = some (some (vi x))) (K : Z S X M d mc ms Q pc' lo (vi x :: st) μ k n) : Z S X M d mc ms Q pc lo (st) μ k n := by
  subst hp
  intro p l e R s m args below meth c b bs G QF H locs ls C h1 h2 h3 h4
  exact lv_iload_n C.1 C.2.1 hd rfl (h4.2.2 _ _ hl) (K _ _ _ _ _ _ _ _ _ _ _ _ _ _ _ _ _ C h1 h2 h3 h4)
theorem Z_iload {i : Nat} {x : Int} (hd : decode M.2.1 pc = .ok (.iload i, 2)) (hp : pc + 2 = pc') (hl : lo[i]? = some (some (vi x))) (K : Z S X M d mc ms Q pc' lo (vi x :: st) μ k n) : Z S X M d mc ms Q pc lo (st) μ k n := by
  subst hp
  intro p l e R s m args below meth c b bs G QF H locs ls C h1 h2 h3 h4
  exact lv_iload C.1 C.2.1 hd (h4.2.2 _ _ hl) (K _ _ _ _ _ _ _ _ _ _ _ _ _ _ _ _ _ C h1 h2 h3 h4)
theorem Z_lload_n {j : Fin 4} {x : Int64} (hd : decode M.2.1 pc = .ok (.lload_n j, 1)) (hp : pc + 1 = pc') (hl : lo[(j : Nat)]? = some (some (.long x))) (K : Z S X M d mc ms Q pc' lo (.long x :: st) μ k n) : Z S X M d mc ms Q pc lo (st) μ k n := by
  subst hp
  intro p l e R s m args below meth c b bs G QF H locs ls C h1 h2 h3 h4
  exact lv_lload_n C.1 C.2.1 hd rfl (h4.2.2 _ _ hl) (K _ _ _ _ _ _ _ _ _ _ _ _ _ _ _ _ _ C h1 h2 h3 h4)
theorem Z_lload {i : Nat} {x : Int64} (hd : decode M.2.1 pc = .ok (.lload i, 2)) (hp : pc + 2 = pc') (hl : lo[i]? = some (some (.long x))) (K : Z S X M d mc ms Q pc' lo (.long x :: st) μ k n) : Z S X M d mc ms Q pc lo (st) μ k n := by
  subst hp
  intro p l e R s m args below meth c b bs G QF H locs ls C h1 h2 h3 h4
  exact lv_lload C.1 C.2.1 hd (h4.2.2 _ _ hl) (K _ _ _ _ _ _ _ _ _ _ _ _ _ _ _ _ _ C h1 h2 h3 h4)
theorem Z_aload_n {j : Fin 4} {x : Nat} (hd : decode M.2.1 pc = .ok (.aload_n j, 1)) (hp : pc + 1 = pc') (hl : lo[(j : Nat)]? = some (some (.ref x))) (K : Z S X M d mc ms Q pc' lo (.ref x :: st) μ k n) : Z S X M d mc ms Q pc lo (st) μ k n := by
  subst hp
  intro p l e R s m args below meth c b bs G QF H locs ls C h1 h2 h3 h4
  exact lv_aload_n C.1 C.2.1 hd rfl (h4.2.2 _ _ hl) (K _ _ _ _ _ _ _ _ _ _ _ _ _ _ _ _ _ C h1 h2 h3 h4)
theorem Z_aload {i : Nat} {x : Nat} (hd : decode M.2.1 pc = .ok (.aload i, 2)) (hp : pc + 2 = pc') (hl : lo[i]? = some (some (.ref x))) (K : Z S X M d mc ms Q pc' lo (.ref x :: st) μ k n) : Z S X M d mc ms Q pc lo (st) μ k n := by
  subst hp
  intro p l e R s m args below meth c b bs G QF H locs ls C h1 h2 h3 h4
  exact lv_aload C.1 C.2.1 hd (h4.2.2 _ _ hl) (K _ _ _ _ _ _ _ _ _ _ _ _ _ _ _ _ _ C h1 h2 h3 h4)
theorem Z_aload_nS {j : Fin 4} {x : UInt32} (hd : decode M.2.1 pc = .ok (.aload_n j, 1)) (hp : pc + 1 = pc') (hl : lo[(j : Nat)]? = some (some (.float x))) (K : Z S X M d mc ms Q pc' lo (.float x :: st) μ k n) : Z S X M d mc ms Q pc lo (st) μ k n := by
  subst hp
  intro p l e R s m args below meth c b bs G QF H locs ls C h1 h2 h3 h4
  exact lv_aload_n C.1 C.2.1 hd rfl (h4.2.2 _ _ hl) (K _ _ _ _ _ _ _ _ _ _ _ _ _ _ _ _ _ C h1 h2 h3 h4)
theorem Z_istore {i : Nat} {x : Int} (hd : decode M.2.1 pc = .ok (.istore i, 2)) (hp : pc + 2 = pc') (hi : i < M.2.2.1) (hl : zst lo i (vi x) = lo') (K : Z S X M d mc ms Q pc' lo' (st) μ k n) : Z S X M d mc ms Q pc lo (vi x :: st) μ k n := by
  subst hp
  subst hl
  intro p l e R s m args below meth c b bs G QF H locs ls C h1 h2 h3 h4
  exact lv_istore C.1 C.2.1 hd (zll_has h4) hi rfl (fun ls' hl' => K _ _ _ _ _ _ _ _ _ _ _ _ _ _ _ _ _ C h1 h2 h3 (zL_st (v := vi x) hl'))
theorem Z_istore_n {j : Fin 4} {x : Int} (hd : decode M.2.1 pc = .ok (.istore_n j, 1)) (hp : pc + 1 = pc') (hi : (j : Nat) < M.2.2.1) (hl : zst lo (j : Nat) (vi x) = lo') (K : Z S X M d mc ms Q pc' lo' (st) μ k n) : Z S X M d mc ms Q pc lo (vi x :: st) μ k n := by
  subst hp
  subst hl
  intro p l e R s m args below meth c b bs G QF H locs ls C h1 h2 h3 h4
  exact lv_istore_n C.1 C.2.1 hd rfl (zll_has h4) hi rfl (fun ls' hl' => K _ _ _ _ _ _ _ _ _ _ _ _ _ _ _ _ _ C h1 h2 h3 (zL_st (v := vi x) hl'))
theorem Z_astore {i : Nat} {x : Nat} (hd : decode M.2.1 pc = .ok (.astore i, 2)) (hp : pc + 2 = pc') (hi : i < M.2.2.1) (hl : zst lo i (.ref x) = lo') (K : Z S X M d mc ms Q pc' lo' (st) μ k n) : Z S X M d mc ms Q pc lo (.ref x :: st) μ k n := by
  subst hp
  subst hl
  intro p l e R s m args below meth c b bs G QF H locs ls C h1 h2 h3 h4
  exact lv_astore C.1 C.2.1 hd (zll_has h4) hi rfl (fun ls' hl' => K _ _ _ _ _ _ _ _ _ _ _ _ _ _ _ _ _ C h1 h2 h3 (zL_st (v := .ref x) hl'))
theorem Z_astore_n {j : Fin 4} {x : Nat} (hd : decode M.2.1 pc = .ok (.astore_n j, 1)) (hp : pc + 1 = pc') (hi : (j : Nat) < M.2.2.1) (hl : zst lo (j : Nat) (.ref x) = lo') (K : Z S X M d mc ms Q pc' lo' (st) μ k n) : Z S X M d mc ms Q pc lo (.ref x :: st) μ k n := by
  subst hp
  subst hl
  intro p l e R s m args below meth c b bs G QF H locs ls C h1 h2 h3 h4
  exact lv_astore_n C.1 C.2.1 hd rfl (zll_has h4) hi rfl (fun ls' hl' => K _ _ _ _ _ _ _ _ _ _ _ _ _ _ _ _ _ C h1 h2 h3 (zL_st (v := .ref x) hl'))
theorem Z_lstore {i : Nat} {x : Int64} (hd : decode M.2.1 pc = .ok (.lstore i, 2)) (hp : pc + 2 = pc') (hi : i + 1 < M.2.2.1) (hl : zst2 lo i (.long x) = lo') (K : Z S X M d mc ms Q pc' lo' (st) μ k n) : Z S X M d mc ms Q pc lo (.long x :: st) μ k n := by
  subst hp
  subst hl
  intro p l e R s m args below meth c b bs G QF H locs ls C h1 h2 h3 h4
  exact lv_lstore C.1 C.2.1 hd (zll_has h4) hi rfl (fun ls' hl' => K _ _ _ _ _ _ _ _ _ _ _ _ _ _ _ _ _ C h1 h2 h3 (zL_st2 (v := .long x) hl'))
theorem Z_lstore_n {j : Fin 4} {x : Int64} (hd : decode M.2.1 pc = .ok (.lstore_n j, 1)) (hp : pc + 1 = pc') (hi : (j : Nat) + 1 < M.2.2.1) (hl : zst2 lo (j : Nat) (.long x) = lo') (K : Z S X M d mc ms Q pc' lo' (st) μ k n) : Z S X M d mc ms Q pc lo (.long x :: st) μ k n := by
  subst hp
  subst hl
  intro p l e R s m args below meth c b bs G QF H locs ls C h1 h2 h3 h4
  exact lv_lstore_n C.1 C.2.1 hd rfl (zll_has h4) hi rfl (fun ls' hl' => K _ _ _ _ _ _ _ _ _ _ _ _ _ _ _ _ _ C h1 h2 h3 (zL_st2 (v := .long x) hl'))
theorem Z_iinc {i : Nat} {z x : Int} (hd : decode M.2.1 pc = .ok (.iinc i z, 3)) (hp : pc + 3 = pc') (hi : i < M.2.2.1) (hx : lo[i]? = some (some (vi x))) (hl : zst lo i (vi (x + z)) = lo') (K : Z S X M d mc ms Q pc' lo' (st) μ k n) : Z S X M d mc ms Q pc lo (st) μ k n := by
  subst hp
  subst hl
  intro p l e R s m args below meth c b bs G QF H locs ls C h1 h2 h3 h4
  obtain ⟨q, hq⟩ := List.getElem?_of_mem (zll_mem (b := b) (bs := bs) hx)
  exact lv_iinc (x := Int32.ofInt x) (v := Int32.ofInt (x + z)) C.1 C.2.1 hd (zll_has h4) hq (by rw [Int32.ofInt_add]) hi rfl (fun ls' hl' => K _ _ _ _ _ _ _ _ _ _ _ _ _ _ _ _ _ C h1 h2 h3 (zL_st (v := vi (x + z)) hl'))
theorem Z_iadd {a b : Int} (hd : decode M.2.1 pc = .ok (.iadd, 1)) (hp : pc + 1 = pc') (K : Z S X M d mc ms Q pc' lo (vi (a + b) :: st) μ k n) : Z S X M d mc ms Q pc lo (vi b :: vi a :: st) μ k n := by
  subst hp
  intro p l e R s m args below meth c b' bs G QF H locs ls C h1 h2 h3 h4
  refine lv_iadd (x := Int32.ofInt a) (y := Int32.ofInt b) C.1 C.2.1 hd ?_
  rw [← Int32.ofInt_add]
  exact K _ _ _ _ _ _ _ _ _ _ _ _ _ _ _ _ _ C h1 h2 h3 h4
theorem Z_isub {a b : Int} (hd : decode M.2.1 pc = .ok (.isub, 1)) (hp : pc + 1 = pc') (K : Z S X M d mc ms Q pc' lo (vi (a - b) :: st) μ k n) : Z S X M d mc ms Q pc lo (vi b :: vi a :: st) μ k n := by
  subst hp
  intro p l e R s m args below meth c b' bs G QF H locs ls C h1 h2 h3 h4
  refine lv_isub (x := Int32.ofInt a) (y := Int32.ofInt b) C.1 C.2.1 hd ?_
  rw [← Int32.ofInt_sub]
  exact K _ _ _ _ _ _ _ _ _ _ _ _ _ _ _ _ _ C h1 h2 h3 h4
theorem Z_imul {a b : Int} (hd : decode M.2.1 pc = .ok (.imul, 1)) (hp : pc + 1 = pc') (K : Z S X M d mc ms Q pc' lo (vi (a * b) :: st) μ k n) : Z S X M d mc ms Q pc lo (vi b :: vi a :: st) μ k n := by
  subst hp
  intro p l e R s m args below meth c b' bs G QF H locs ls C h1 h2 h3 h4
  refine lv_imul (x := Int32.ofInt a) (y := Int32.ofInt b) C.1 C.2.1 hd ?_
  rw [← Int32.ofInt_mul]
  exact K _ _ _ _ _ _ _ _ _ _ _ _ _ _ _ _ _ C h1 h2 h3 h4
theorem Z_ineg {a : Int} (hd : decode M.2.1 pc = .ok (.ineg, 1)) (hp : pc + 1 = pc') (K : Z S X M d mc ms Q pc' lo (vi (-a) :: st) μ k n) : Z S X M d mc ms Q pc lo (vi a :: st) μ k n := by
  subst hp
  intro p l e R s m args below meth c b bs G QF H locs ls C h1 h2 h3 h4
  refine lv_ineg (x := Int32.ofInt a) C.1 C.2.1 hd ?_
  rw [← Int32.ofInt_neg]
  exact K _ _ _ _ _ _ _ _ _ _ _ _ _ _ _ _ _ C h1 h2 h3 h4
theorem Z_iand {a b z : Int} (hd : decode M.2.1 pc = .ok (.iand, 1)) (hp : pc + 1 = pc') (hz : Int32.ofInt a &&& Int32.ofInt b = Int32.ofInt z) (K : Z S X M d mc ms Q pc' lo (vi z :: st) μ k n) : Z S X M d mc ms Q pc lo (vi b :: vi a :: st) μ k n := by
  subst hp
  intro p l e R s m args below meth c b' bs G QF H locs ls C h1 h2 h3 h4
  refine lv_iand (x := Int32.ofInt a) (y := Int32.ofInt b) C.1 C.2.1 hd ?_
  rw [hz]
  exact K _ _ _ _ _ _ _ _ _ _ _ _ _ _ _ _ _ C h1 h2 h3 h4
theorem Z_ishl {a b z : Int} (hd : decode M.2.1 pc = .ok (.ishl, 1)) (hp : pc + 1 = pc') (hz : Int32.ofInt a <<< (Int32.ofInt b &&& 31) = Int32.ofInt z) (K : Z S X M d mc ms Q pc' lo (vi z :: st) μ k n) : Z S X M d mc ms Q pc lo (vi b :: vi a :: st) μ k n := by
  subst hp
  intro p l e R s m args below meth c b' bs G QF H locs ls C h1 h2 h3 h4
  refine lv_ishl (x := Int32.ofInt a) (y := Int32.ofInt b) C.1 C.2.1 hd ?_
  rw [hz]
  exact K _ _ _ _ _ _ _ _ _ _ _ _ _ _ _ _ _ C h1 h2 h3 h4
theorem Z_ishr {a b z : Int} (hd : decode M.2.1 pc = .ok (.ishr, 1)) (hp : pc + 1 = pc') (hz : Int32.ofInt a >>> (Int32.ofInt b &&& 31) = Int32.ofInt z) (K : Z S X M d mc ms Q pc' lo (vi z :: st) μ k n) : Z S X M d mc ms Q pc lo (vi b :: vi a :: st) μ k n := by
  subst hp
  intro p l e R s m args below meth c b' bs G QF H locs ls C h1 h2 h3 h4
  refine lv_ishr (x := Int32.ofInt a) (y := Int32.ofInt b) C.1 C.2.1 hd ?_
  rw [hz]
  exact K _ _ _ _ _ _ _ _ _ _ _ _ _ _ _ _ _ C h1 h2 h3 h4
theorem z_tdiv {a b : Int} (ha : zIn a) (hb : zIn b) : Int32.ofInt a / Int32.ofInt b = Int32.ofInt (a.tdiv b) := by
  rw [Int32.ofInt_tdiv] <;> first | (show _ ≤ _; have := ha.1; have := ha.2; have := hb.1; have := hb.2; first | (show (-2147483648 : Int) ≤ _; omega) | (show _ ≤ (2147483647 : Int); omega)) | skip
theorem Z_idiv {a b : Int} (hd : decode M.2.1 pc = .ok (.idiv, 1)) (hp : pc + 1 = pc') (ha : zIn a) (hb : zIn b) (h0 : ¬ b = 0) (K : Z S X M d mc ms Q pc' lo (vi (a.tdiv b) :: st) μ k n) : Z S X M d mc ms Q pc lo (vi b :: vi a :: st) μ k n := by
  subst hp
  intro p l e R s m args below meth c b' bs G QF H locs ls C h1 h2 h3 h4
  refine lv_idiv (x := Int32.ofInt a) (y := Int32.ofInt b) C.1 C.2.1 hd (fun h => h0 ((z_eq hb z_in0).mp h)) ?_
  rw [z_tdiv ha hb]
  exact K _ _ _ _ _ _ _ _ _ _ _ _ _ _ _ _ _ C h1 h2 h3 h4
theorem Z_irem {a b : Int} (hd : decode M.2.1 pc = .ok (.irem, 1)) (hp : pc + 1 = pc') (ha : zIn a) (hb : zIn b) (h0 : ¬ b = 0) (K : Z S X M d mc ms Q pc' lo (vi (a - a.tdiv b * b) :: st) μ k n) : Z S X M d mc ms Q pc lo (vi b :: vi a :: st) μ k n := by
  subst hp
  intro p l e R s m args below meth c b' bs G QF H locs ls C h1 h2 h3 h4
  refine lv_irem (x := Int32.ofInt a) (y := Int32.ofInt b) C.1 C.2.1 hd (fun h => h0 ((z_eq hb z_in0).mp h)) ?_
  rw [z_tdiv ha hb, ← Int32.ofInt_mul, ← Int32.ofInt_sub]
  exact K _ _ _ _ _ _ _ _ _ _ _ _ _ _ _ _ _ C h1 h2 h3 h4
theorem Z_ladd {x y : Int64} (hd : decode M.2.1 pc = .ok (.ladd, 1)) (hp : pc + 1 = pc') (K : Z S X M d mc ms Q pc' lo (.long (x + y) :: st) μ k n) : Z S X M d mc ms Q pc lo (.long y :: .long x :: st) μ k n := by
  subst hp
  intro p l e R s m args below meth c b bs G QF H locs ls C h1 h2 h3 h4
  exact lv_ladd C.1 C.2.1 hd (K _ _ _ _ _ _ _ _ _ _ _ _ _ _ _ _ _ C h1 h2 h3 h4)
theorem Z_lsub {x y : Int64} (hd : decode M.2.1 pc = .ok (.lsub, 1)) (hp : pc + 1 = pc') (K : Z S X M d mc ms Q pc' lo (.long (x - y) :: st) μ k n) : Z S X M d mc ms Q pc lo (.long y :: .long x :: st) μ k n := by
  subst hp
  intro p l e R s m args below meth c b bs G QF H locs ls C h1 h2 h3 h4
  exact lv_lsub C.1 C.2.1 hd (K _ _ _ _ _ _ _ _ _ _ _ _ _ _ _ _ _ C h1 h2 h3 h4)
theorem Z_lmul {x y : Int64} (hd : decode M.2.1 pc = .ok (.lmul, 1)) (hp : pc + 1 = pc') (K : Z S X M d mc ms Q pc' lo (.long (x * y) :: st) μ k n) : Z S X M d mc ms Q pc lo (.long y :: .long x :: st) μ k n := by
  subst hp
  intro p l e R s m args below meth c b bs G QF H locs ls C h1 h2 h3 h4
  exact lv_lmul C.1 C.2.1 hd (K _ _ _ _ _ _ _ _ _ _ _ _ _ _ _ _ _ C h1 h2 h3 h4)
theorem Z_land {x y : Int64} (hd : decode M.2.1 pc = .ok (.land, 1)) (hp : pc + 1 = pc') (K : Z S X M d mc ms Q pc' lo (.long (x &&& y) :: st) μ k n) : Z S X M d mc ms Q pc lo (.long y :: .long x :: st) μ k n := by
  subst hp
  intro p l e R s m args below meth c b bs G QF H locs ls C h1 h2 h3 h4
  exact lv_land C.1 C.2.1 hd (K _ _ _ _ _ _ _ _ _ _ _ _ _ _ _ _ _ C h1 h2 h3 h4)
theorem Z_lor {x y : Int64} (hd : decode M.2.1 pc = .ok (.lor, 1)) (hp : pc + 1 = pc') (K : Z S X M d mc ms Q pc' lo (.long (x ||| y) :: st) μ k n) : Z S X M d mc ms Q pc lo (.long y :: .long x :: st) μ k n := by
  subst hp
  intro p l e R s m args below meth c b bs G QF H locs ls C h1 h2 h3 h4
  exact lv_lor C.1 C.2.1 hd (K _ _ _ _ _ _ _ _ _ _ _ _ _ _ _ _ _ C h1 h2 h3 h4)
theorem Z_lxor {x y : Int64} (hd : decode M.2.1 pc = .ok (.lxor, 1)) (hp : pc + 1 = pc') (K : Z S X M d mc ms Q pc' lo (.long (x ^^^ y) :: st) μ k n) : Z S X M d mc ms Q pc lo (.long y :: .long x :: st) μ k n := by
  subst hp
  intro p l e R s m args below meth c b bs G QF H locs ls C h1 h2 h3 h4
  exact lv_lxor C.1 C.2.1 hd (K _ _ _ _ _ _ _ _ _ _ _ _ _ _ _ _ _ C h1 h2 h3 h4)
theorem Z_lushr {x : Int64} {y : Int} (hd : decode M.2.1 pc = .ok (.lushr, 1)) (hp : pc + 1 = pc') (K : Z S X M d mc ms Q pc' lo (.long ((x.toUInt64 >>> ((Int32.ofInt y).toInt64.toUInt64 &&& Int64.toUInt64 63)).toInt64) :: st) μ k n) : Z S X M d mc ms Q pc lo (vi y :: .long x :: st) μ k n := by
  subst hp
  intro p l e R s m args below meth c b bs G QF H locs ls C h1 h2 h3 h4
  exact lv_lushr (y := Int32.ofInt y) C.1 C.2.1 hd rfl (K _ _ _ _ _ _ _ _ _ _ _ _ _ _ _ _ _ C h1 h2 h3 h4)
theorem Z_lshl {x : Int64} {y : Int} (hd : decode M.2.1 pc = .ok (.lshl, 1)) (hp : pc + 1 = pc') (K : Z S X M d mc ms Q pc' lo (.long (x <<< ((Int32.ofInt y).toInt64 &&& 63)) :: st) μ k n) : Z S X M d mc ms Q pc lo (vi y :: .long x :: st) μ k n := by
  subst hp
  intro p l e R s m args below meth c b bs G QF H locs ls C h1 h2 h3 h4
  exact lv_lshl (y := Int32.ofInt y) C.1 C.2.1 hd rfl (K _ _ _ _ _ _ _ _ _ _ _ _ _ _ _ _ _ C h1 h2 h3 h4)
theorem Z_lshr {x : Int64} {y : Int} (hd : decode M.2.1 pc = .ok (.lshr, 1)) (hp : pc + 1 = pc') (K : Z S X M d mc ms Q pc' lo (.long (x >>> ((Int32.ofInt y).toInt64 &&& 63)) :: st) μ k n) : Z S X M d mc ms Q pc lo (vi y :: .long x :: st) μ k n := by
  subst hp
  intro p l e R s m args below meth c b bs G QF H locs ls C h1 h2 h3 h4
  exact lv_lshr (y := Int32.ofInt y) C.1 C.2.1 hd rfl (K _ _ _ _ _ _ _ _ _ _ _ _ _ _ _ _ _ C h1 h2 h3 h4)
theorem Z_i2l {a : Int} (hd : decode M.2.1 pc = .ok (.i2l, 1)) (hp : pc + 1 = pc') (K : Z S X M d mc ms Q pc' lo (.long (Int32.ofInt a).toInt64 :: st) μ k n) : Z S X M d mc ms Q pc lo (vi a :: st) μ k n := by
  subst hp
  intro p l e R s m args below meth c b bs G QF H locs ls C h1 h2 h3 h4
  exact lv_i2l (x := Int32.ofInt a) C.1 C.2.1 hd rfl (K _ _ _ _ _ _ _ _ _ _ _ _ _ _ _ _ _ C h1 h2 h3 h4)
theorem Z_l2i {x : Int64} (hd : decode M.2.1 pc = .ok (.l2i, 1)) (hp : pc + 1 = pc') (K : Z S X M d mc ms Q pc' lo (vi x.toInt32.toInt :: st) μ k n) : Z S X M d mc ms Q pc lo (.long x :: st) μ k n := by
  subst hp
  intro p l e R s m args below meth c b bs G QF H locs ls C h1 h2 h3 h4
  refine lv_l2i (v := Int32.ofInt x.toInt32.toInt) C.1 C.2.1 hd (by rw [Int32.ofInt_toInt]) (K _ _ _ _ _ _ _ _ _ _ _ _ _ _ _ _ _ C h1 h2 h3 h4)
def zcmp (x y : Int64) : Int := if x = y then 0 else if x < y then -1 else 1
theorem zcmp_lg (x y : Int64) : lg_cmp x y = Int32.ofInt (zcmp x y) := by
  unfold zcmp lg_cmp
  by_cases h : x = y
  · subst h
    simp
  · by_cases h2 : x < y
    · have h3 : ¬ y < x := fun h3 => by
        rw [Int64.lt_iff_toInt_lt] at h2 h3
        omega
      simp [h, h2, h3]
    · have h3 : y < x := by
        rw [Int64.lt_iff_toInt_lt] at h2 ⊢
        have : ¬ x.toInt = y.toInt := fun e => h (Int64.toInt_inj.mp e)
        omega
      simp [h, h2, h3]
theorem Z_lcmp {x y : Int64} (hd : decode M.2.1 pc = .ok (.lcmp, 1)) (hp : pc + 1 = pc') (K : Z S X M d mc ms Q pc' lo (vi (zcmp x y) :: st) μ k n) : Z S X M d mc ms Q pc lo (.long y :: .long x :: st) μ k n := by
  subst hp
  intro p l e R s m args below meth c b bs G QF H locs ls C h1 h2 h3 h4
  refine W.lcmp C.1 C.2.1 hd ?_
  rw [zcmp_lg]
  exact K _ _ _ _ _ _ _ _ _ _ _ _ _ _ _ _ _ C h1 h2 h3 h4
theorem Z_dup {v : Value} (hd : decode M.2.1 pc = .ok (.dup, 1)) (hp : pc + 1 = pc') (hc : v.category = 1) (K : Z S X M d mc ms Q pc' lo (v :: v :: st) μ k n) : Z S X M d mc ms Q pc lo (v :: st) μ k n := by
  subst hp
  intro p l e R s m args below meth c b bs G QF H locs ls C h1 h2 h3 h4
  exact lv_dup C.1 C.2.1 hd (by rw [zt_cat]; exact hc) (K _ _ _ _ _ _ _ _ _ _ _ _ _ _ _ _ _ C h1 h2 h3 h4)
theorem Z_dup2 {v w : Value} (hd : decode M.2.1 pc = .ok (.dup2, 1)) (hp : pc + 1 = pc') (hc : v.category = 1) (hw : w.category = 1) (K : Z S X M d mc ms Q pc' lo (v :: w :: v :: w :: st) μ k n) : Z S X M d mc ms Q pc lo (v :: w :: st) μ k n := by
  subst hp
  intro p l e R s m args below meth c b bs G QF H locs ls C h1 h2 h3 h4
  exact lv_dup2_11 C.1 C.2.1 hd (by rw [zt_cat]; exact hc) (by rw [zt_cat]; exact hw) (K _ _ _ _ _ _ _ _ _ _ _ _ _ _ _ _ _ C h1 h2 h3 h4)
theorem Z_pop {v : Value} (hd : decode M.2.1 pc = .ok (.pop, 1)) (hp : pc + 1 = pc') (hc : v.category = 1) (K : Z S X M d mc ms Q pc' lo (st) μ k n) : Z S X M d mc ms Q pc lo (v :: st) μ k n := by
  subst hp
  intro p l e R s m args below meth c b bs G QF H locs ls C h1 h2 h3 h4
  exact lv_pop C.1 C.2.1 hd (by rw [zt_cat]; exact hc) (K _ _ _ _ _ _ _ _ _ _ _ _ _ _ _ _ _ C h1 h2 h3 h4)
theorem Z_icmp_eq {a b : Int} {off : Int} (hd : decode M.2.1 pc = .ok (.if_icmp .eq off, 3)) (ht : (pc : Int) + off = (tgt : Int)) (hp : pc + 3 = pc') (ha : zIn a) (hb : zIn b) (kt : a = b → Z S X M d mc ms Q tgt lo (st) μ k n) (kf : ¬ (a = b) → Z S X M d mc ms Q pc' lo (st) μ k n) : Z S X M d mc ms Q pc lo (vi b :: vi a :: st) μ k n := by
  subst hp
  intro p l e R s m args below meth c b' bs G QF H locs ls C h1 h2 h3 h4
  have hi := (z_eq ha hb)
  exact lv_icmp_eq (x := Int32.ofInt a) (y := Int32.ofInt b) C.1 C.2.1 hd ht (fun h => kt (hi.mp h) _ _ _ _ _ _ _ _ _ _ _ _ _ _ _ _ _ C h1 h2 h3 h4) (fun h => kf (fun q => h (hi.mpr q)) _ _ _ _ _ _ _ _ _ _ _ _ _ _ _ _ _ C h1 h2 h3 h4)
theorem Z_if_eq {a : Int} {off : Int} (hd : decode M.2.1 pc = .ok (.ifCond .eq off, 3)) (ht : (pc : Int) + off = (tgt : Int)) (hp : pc + 3 = pc') (ha : zIn a) (kt : a = 0 → Z S X M d mc ms Q tgt lo (st) μ k n) (kf : ¬ (a = 0) → Z S X M d mc ms Q pc' lo (st) μ k n) : Z S X M d mc ms Q pc lo (vi a :: st) μ k n := by
  subst hp
  intro p l e R s m args below meth c b bs G QF H locs ls C h1 h2 h3 h4
  have hi := (z_eq ha z_in0)
  exact lv_if_eq (x := Int32.ofInt a) C.1 C.2.1 hd ht (fun h => kt (hi.mp h) _ _ _ _ _ _ _ _ _ _ _ _ _ _ _ _ _ C h1 h2 h3 h4) (fun h => kf (fun q => h (hi.mpr q)) _ _ _ _ _ _ _ _ _ _ _ _ _ _ _ _ _ C h1 h2 h3 h4)
theorem Z_icmp_ne {a b : Int} {off : Int} (hd : decode M.2.1 pc = .ok (.if_icmp .ne off, 3)) (ht : (pc : Int) + off = (tgt : Int)) (hp : pc + 3 = pc') (ha : zIn a) (hb : zIn b) (kt : ¬ a = b → Z S X M d mc ms Q tgt lo (st) μ k n) (kf : a = b → Z S X M d mc ms Q pc' lo (st) μ k n) : Z S X M d mc ms Q pc lo (vi b :: vi a :: st) μ k n := by
  subst hp
  intro p l e R s m args below meth c b' bs G QF H locs ls C h1 h2 h3 h4
  have hi := (not_congr (z_eq ha hb))
  exact lv_icmp_ne (x := Int32.ofInt a) (y := Int32.ofInt b) C.1 C.2.1 hd ht (fun h => kt (hi.mp h) _ _ _ _ _ _ _ _ _ _ _ _ _ _ _ _ _ C h1 h2 h3 h4) (fun h => kf ((z_eq ha hb).mp h) _ _ _ _ _ _ _ _ _ _ _ _ _ _ _ _ _ C h1 h2 h3 h4)
theorem Z_if_ne {a : Int} {off : Int} (hd : decode M.2.1 pc = .ok (.ifCond .ne off, 3)) (ht : (pc : Int) + off = (tgt : Int)) (hp : pc + 3 = pc') (ha : zIn a) (kt : ¬ a = 0 → Z S X M d mc ms Q tgt lo (st) μ k n) (kf : a = 0 → Z S X M d mc ms Q pc' lo (st) μ k n) : Z S X M d mc ms Q pc lo (vi a :: st) μ k n := by
  subst hp
  intro p l e R s m args below meth c b bs G QF H locs ls C h1 h2 h3 h4
  have hi := (not_congr (z_eq ha z_in0))
  exact lv_if_ne (x := Int32.ofInt a) C.1 C.2.1 hd ht (fun h => kt (hi.mp h) _ _ _ _ _ _ _ _ _ _ _ _ _ _ _ _ _ C h1 h2 h3 h4) (fun h => kf ((z_eq ha z_in0).mp h) _ _ _ _ _ _ _ _ _ _ _ _ _ _ _ _ _ C h1 h2 h3 h4)
theorem Z_icmp_lt {a b : Int} {off : Int} (hd : decode M.2.1 pc = .ok (.if_icmp .lt off, 3)) (ht : (pc : Int) + off = (tgt : Int)) (hp : pc + 3 = pc') (ha : zIn a) (hb : zIn b) (kt : a < b → Z S X M d mc ms Q tgt lo (st) μ k n) (kf : ¬ (a < b) → Z S X M d mc ms Q pc' lo (st) μ k n) : Z S X M d mc ms Q pc lo (vi b :: vi a :: st) μ k n := by
  subst hp
  intro p l e R s m args below meth c b' bs G QF H locs ls C h1 h2 h3 h4
  have hi := (z_lt ha hb)
  exact lv_icmp_lt (x := Int32.ofInt a) (y := Int32.ofInt b) C.1 C.2.1 hd ht (fun h => kt (hi.mp h) _ _ _ _ _ _ _ _ _ _ _ _ _ _ _ _ _ C h1 h2 h3 h4) (fun h => kf (fun q => h (hi.mpr q)) _ _ _ _ _ _ _ _ _ _ _ _ _ _ _ _ _ C h1 h2 h3 h4)
theorem Z_if_lt {a : Int} {off : Int} (hd : decode M.2.1 pc = .ok (.ifCond .lt off, 3)) (ht : (pc : Int) + off = (tgt : Int)) (hp : pc + 3 = pc') (ha : zIn a) (kt : a < 0 → Z S X M d mc ms Q tgt lo (st) μ k n) (kf : ¬ (a < 0) → Z S X M d mc ms Q pc' lo (st) μ k n) : Z S X M d mc ms Q pc lo (vi a :: st) μ k n := by
  subst hp
  intro p l e R s m args below meth c b bs G QF H locs ls C h1 h2 h3 h4
  have hi := (z_lt ha z_in0)
  exact lv_if_lt (x := Int32.ofInt a) C.1 C.2.1 hd ht (fun h => kt (hi.mp h) _ _ _ _ _ _ _ _ _ _ _ _ _ _ _ _ _ C h1 h2 h3 h4) (fun h => kf (fun q => h (hi.mpr q)) _ _ _ _ _ _ _ _ _ _ _ _ _ _ _ _ _ C h1 h2 h3 h4)
theorem Z_icmp_le {a b : Int} {off : Int} (hd : decode M.2.1 pc = .ok (.if_icmp .le off, 3)) (ht : (pc : Int) + off = (tgt : Int)) (hp : pc + 3 = pc') (ha : zIn a) (hb : zIn b) (kt : a ≤ b → Z S X M d mc ms Q tgt lo (st) μ k n) (kf : ¬ (a ≤ b) → Z S X M d mc ms Q pc' lo (st) μ k n) : Z S X M d mc ms Q pc lo (vi b :: vi a :: st) μ k n := by
  subst hp
  intro p l e R s m args below meth c b' bs G QF H locs ls C h1 h2 h3 h4
  have hi := (z_le ha hb)
  exact lv_icmp_le (x := Int32.ofInt a) (y := Int32.ofInt b) C.1 C.2.1 hd ht (fun h => kt (hi.mp h) _ _ _ _ _ _ _ _ _ _ _ _ _ _ _ _ _ C h1 h2 h3 h4) (fun h => kf (fun q => h (hi.mpr q)) _ _ _ _ _ _ _ _ _ _ _ _ _ _ _ _ _ C h1 h2 h3 h4)
theorem Z_if_le {a : Int} {off : Int} (hd : decode M.2.1 pc = .ok (.ifCond .le off, 3)) (ht : (pc : Int) + off = (tgt : Int)) (hp : pc + 3 = pc') (ha : zIn a) (kt : a ≤ 0 → Z S X M d mc ms Q tgt lo (st) μ k n) (kf : ¬ (a ≤ 0) → Z S X M d mc ms Q pc' lo (st) μ k n) : Z S X M d mc ms Q pc lo (vi a :: st) μ k n := by
  subst hp
  intro p l e R s m args below meth c b bs G QF H locs ls C h1 h2 h3 h4
  have hi := (z_le ha z_in0)
  exact lv_if_le (x := Int32.ofInt a) C.1 C.2.1 hd ht (fun h => kt (hi.mp h) _ _ _ _ _ _ _ _ _ _ _ _ _ _ _ _ _ C h1 h2 h3 h4) (fun h => kf (fun q => h (hi.mpr q)) _ _ _ _ _ _ _ _ _ _ _ _ _ _ _ _ _ C h1 h2 h3 h4)
theorem Z_icmp_gt {a b : Int} {off : Int} (hd : decode M.2.1 pc = .ok (.if_icmp .gt off, 3)) (ht : (pc : Int) + off = (tgt : Int)) (hp : pc + 3 = pc') (ha : zIn a) (hb : zIn b) (kt : b < a → Z S X M d mc ms Q tgt lo (st) μ k n) (kf : ¬ (b < a) → Z S X M d mc ms Q pc' lo (st) μ k n) : Z S X M d mc ms Q pc lo (vi b :: vi a :: st) μ k n := by
  subst hp
  intro p l e R s m args below meth c b' bs G QF H locs ls C h1 h2 h3 h4
  have hi := (z_lt hb ha)
  exact lv_icmp_gt (x := Int32.ofInt a) (y := Int32.ofInt b) C.1 C.2.1 hd ht (fun h => kt (hi.mp h) _ _ _ _ _ _ _ _ _ _ _ _ _ _ _ _ _ C h1 h2 h3 h4) (fun h => kf (fun q => h (hi.mpr q)) _ _ _ _ _ _ _ _ _ _ _ _ _ _ _ _ _ C h1 h2 h3 h4)
theorem Z_if_gt {a : Int} {off : Int} (hd : decode M.2.1 pc = .ok (.ifCond .gt off, 3)) (ht : (pc : Int) + off = (tgt : Int)) (hp : pc + 3 = pc') (ha : zIn a) (kt : 0 < a → Z S X M d mc ms Q tgt lo (st) μ k n) (kf : ¬ (0 < a) → Z S X M d mc ms Q pc' lo (st) μ k n) : Z S X M d mc ms Q pc lo (vi a :: st) μ k n := by
  subst hp
  intro p l e R s m args below meth c b bs G QF H locs ls C h1 h2 h3 h4
  have hi := (z_lt z_in0 ha)
  exact lv_if_gt (x := Int32.ofInt a) C.1 C.2.1 hd ht (fun h => kt (hi.mp h) _ _ _ _ _ _ _ _ _ _ _ _ _ _ _ _ _ C h1 h2 h3 h4) (fun h => kf (fun q => h (hi.mpr q)) _ _ _ _ _ _ _ _ _ _ _ _ _ _ _ _ _ C h1 h2 h3 h4)
theorem Z_icmp_ge {a b : Int} {off : Int} (hd : decode M.2.1 pc = .ok (.if_icmp .ge off, 3)) (ht : (pc : Int) + off = (tgt : Int)) (hp : pc + 3 = pc') (ha : zIn a) (hb : zIn b) (kt : b ≤ a → Z S X M d mc ms Q tgt lo (st) μ k n) (kf : ¬ (b ≤ a) → Z S X M d mc ms Q pc' lo (st) μ k n) : Z S X M d mc ms Q pc lo (vi b :: vi a :: st) μ k n := by
  subst hp
  intro p l e R s m args below meth c b' bs G QF H locs ls C h1 h2 h3 h4
  have hi := (z_le hb ha)
  exact lv_icmp_ge (x := Int32.ofInt a) (y := Int32.ofInt b) C.1 C.2.1 hd ht (fun h => kt (hi.mp h) _ _ _ _ _ _ _ _ _ _ _ _ _ _ _ _ _ C h1 h2 h3 h4) (fun h => kf (fun q => h (hi.mpr q)) _ _ _ _ _ _ _ _ _ _ _ _ _ _ _ _ _ C h1 h2 h3 h4)
theorem Z_if_ge {a : Int} {off : Int} (hd : decode M.2.1 pc = .ok (.ifCond .ge off, 3)) (ht : (pc : Int) + off = (tgt : Int)) (hp : pc + 3 = pc') (ha : zIn a) (kt : 0 ≤ a → Z S X M d mc ms Q tgt lo (st) μ k n) (kf : ¬ (0 ≤ a) → Z S X M d mc ms Q pc' lo (st) μ k n) : Z S X M d mc ms Q pc lo (vi a :: st) μ k n := by
  subst hp
  intro p l e R s m args below meth c b bs G QF H locs ls C h1 h2 h3 h4
  have hi := (z_le z_in0 ha)
  exact lv_if_ge (x := Int32.ofInt a) C.1 C.2.1 hd ht (fun h => kt (hi.mp h) _ _ _ _ _ _ _ _ _ _ _ _ _ _ _ _ _ C h1 h2 h3 h4) (fun h => kf (fun q => h (hi.mpr q)) _ _ _ _ _ _ _ _ _ _ _ _ _ _ _ _ _ C h1 h2 h3 h4)
theorem Z_goto {off : Int} (hd : decode M.2.1 pc = .ok (.goto off, 3)) (ht : (pc : Int) + off = (tgt : Int)) (K : Z S X M d mc ms Q tgt lo (st) μ k n) : Z S X M d mc ms Q pc lo (st) μ k n := by
  intro p l e R s m args below meth c b bs G QF H locs ls C h1 h2 h3 h4
  exact lv_goto C.1 C.2.1 hd ht (K _ _ _ _ _ _ _ _ _ _ _ _ _ _ _ _ _ C h1 h2 h3 h4)
theorem Z_ifnull {o : Option Nat} {off : Int} (hd : decode M.2.1 pc = .ok (.ifnull off, 3)) (ht : (pc : Int) + off = (tgt : Int)) (hp : pc + 3 = pc') (kt : o = none → Z S X M d mc ms Q tgt lo (st) μ k n) (kf : ∀ q, o = some q → Z S X M d mc ms Q pc' lo (st) μ k n) : Z S X M d mc ms Q pc lo (va_rf o :: st) μ k n := by
  subst hp
  intro p l e R s m args below meth c b bs G QF H locs ls C h1 h2 h3 h4
  cases o with
  | none => exact lv_ifnullN C.1 C.2.1 hd ht (kt rfl _ _ _ _ _ _ _ _ _ _ _ _ _ _ _ _ _ C h1 h2 h3 h4)
  | some q => exact lv_ifnull C.1 C.2.1 hd (kf q rfl _ _ _ _ _ _ _ _ _ _ _ _ _ _ _ _ _ C h1 h2 h3 h4)
theorem Z_ifnonnull {o : Option Nat} {off : Int} (hd : decode M.2.1 pc = .ok (.ifnonnull off, 3)) (ht : (pc : Int) + off = (tgt : Int)) (hp : pc + 3 = pc') (kt : ∀ q, o = some q → Z S X M d mc ms Q tgt lo (st) μ k n) (kf : o = none → Z S X M d mc ms Q pc' lo (st) μ k n) : Z S X M d mc ms Q pc lo (va_rf o :: st) μ k n := by
  subst hp
  intro p l e R s m args below meth c b bs G QF H locs ls C h1 h2 h3 h4
  cases o with
  | none => exact lv_ifnonnullN C.1 C.2.1 hd (kf rfl _ _ _ _ _ _ _ _ _ _ _ _ _ _ _ _ _ C h1 h2 h3 h4)
  | some q => exact lv_ifnonnull C.1 C.2.1 hd ht (kt q rfl _ _ _ _ _ _ _ _ _ _ _ _ _ _ _ _ _ C h1 h2 h3 h4)
theorem Z_tableIn {a dflt hi off : Int} {lw : Int} {offs : Array Int} {len : Nat} (hd : decode M.2.1 pc = .ok (.tableswitch dflt lw hi offs, len)) (ha : zIn a) (g1 : ¬ a < lw) (g2 : ¬ hi < a) (ho : offs[(a - lw).toNat]? = some off) (ht : (pc : Int) + off = (tgt : Int)) (K : Z S X M d mc ms Q tgt lo (st) μ k n) : Z S X M d mc ms Q pc lo (vi a :: st) μ k n := by
  intro p l e R s m args below meth c b bs G QF H locs ls C h1 h2 h3 h4
  exact lv_tableIn (x := Int32.ofInt a) C.1 C.2.1 hd (by rw [z_toInt ha]; exact g1) (by rw [z_toInt ha]; exact g2) (by rw [z_toInt ha]; exact ho) ht (K _ _ _ _ _ _ _ _ _ _ _ _ _ _ _ _ _ C h1 h2 h3 h4)
theorem Z_tableOut {a dflt hi : Int} {lw : Int} {offs : Array Int} {len : Nat} (hd : decode M.2.1 pc = .ok (.tableswitch dflt lw hi offs, len)) (ha : zIn a) (g : a < lw ∨ hi < a) (ht : (pc : Int) + dflt = (tgt : Int)) (K : Z S X M d mc ms Q tgt lo (st) μ k n) : Z S X M d mc ms Q pc lo (vi a :: st) μ k n := by
  intro p l e R s m args below meth c b bs G QF H locs ls C h1 h2 h3 h4
  exact lv_tableOut (x := Int32.ofInt a) C.1 C.2.1 hd (by rw [z_toInt ha]; exact g) ht (K _ _ _ _ _ _ _ _ _ _ _ _ _ _ _ _ _ C h1 h2 h3 h4)
theorem Z_lookup {a dflt off : Int} {ps : Array (Int × Int)} {len : Nat} (hd : decode M.2.1 pc = .ok (.lookupswitch dflt ps, len)) (ha : zIn a) (hs : (ps.toList.zip (ps.toList.drop 1)).all (fun (a, next) => a.1 < next.1) = true) (ho : Op.lookupswitch.offset ps.toList dflt a = off) (ht : (pc : Int) + off = (tgt : Int)) (K : Z S X M d mc ms Q tgt lo (st) μ k n) : Z S X M d mc ms Q pc lo (vi a :: st) μ k n := by
  intro p l e R s m args below meth c b bs G QF H locs ls C h1 h2 h3 h4
  exact lv_lookup (x := Int32.ofInt a) C.1 C.2.1 hd hs (by rw [z_toInt ha]; exact ho) ht (K _ _ _ _ _ _ _ _ _ _ _ _ _ _ _ _ _ C h1 h2 h3 h4)
theorem Z_ret {v : Option Value} {op : Instr} (hd : decode M.2.1 pc = .ok (op, 1)) (ho : zOp M.2.2.2 v op) (hk : k ≤ mc) (hn : n ≤ ms) (hq : Q v μ) : Z S X M d mc ms Q pc lo (v.toList) μ k n := by
  intro p l e R s m args below meth c b bs G QF H locs ls C h1 h2 h3 h4
  exact W.widen hk hn (C.2.2.2.2.2.2.2.2.2.2 v μ H locs ls pc op hd ho h1 h2 h3 hq)
theorem Z_ireturn {z : Int} {Q' : Int → zMem → Prop} (hd : decode M.2.1 pc = .ok (.ireturn, 1)) (ht : M.2.2.2 = some .int) (hk : k ≤ mc) (hn : n ≤ ms) (hq : Q' z μ) : Z S X M d mc ms (qI Q') pc lo [vi z] μ k n :=
  Z_ret (v := some (vi z)) hd (Or.inr (Or.inl ⟨z, ht, rfl, rfl⟩)) hk hn ⟨z, rfl, hq⟩
theorem Z_zreturn {z : Int} {Q' : Int → zMem → Prop} (hd : decode M.2.1 pc = .ok (.ireturn, 1)) (ht : M.2.2.2 = some .boolean) (hz : z = 0 ∨ z = 1) (hk : k ≤ mc) (hn : n ≤ ms) (hq : Q' z μ) : Z S X M d mc ms (qI Q') pc lo [vi z] μ k n :=
  Z_ret (v := some (vi z)) hd (Or.inr (Or.inr (Or.inl ⟨z, ht, hz, rfl, rfl⟩))) hk hn ⟨z, rfl, hq⟩
theorem Z_lreturn {z : Int64} {Q' : Int64 → zMem → Prop} (hd : decode M.2.1 pc = .ok (.lreturn, 1)) (ht : M.2.2.2 = some .long) (hk : k ≤ mc) (hn : n ≤ ms) (hq : Q' z μ) : Z S X M d mc ms (qL Q') pc lo [.long z] μ k n :=
  Z_ret (v := some (.long z)) hd (Or.inr (Or.inr (Or.inr (Or.inl ⟨z, ht, rfl, rfl⟩)))) hk hn ⟨z, rfl, hq⟩
theorem Z_areturn {z : Nat} {C : String} {Q' : Nat → zMem → Prop} (hd : decode M.2.1 pc = .ok (.areturn, 1)) (ht : M.2.2.2 = some (.object C)) (hk : k ≤ mc) (hn : n ≤ ms) (hq : Q' z μ) : Z S X M d mc ms (qR Q') pc lo [.ref z] μ k n :=
  Z_ret (v := some (.ref z)) hd (Or.inr (Or.inr (Or.inr (Or.inr ⟨C, z, ht, rfl, rfl⟩)))) hk hn ⟨z, rfl, hq⟩
theorem Z_return {Q' : zMem → Prop} (hd : decode M.2.1 pc = .ok (.return_, 1)) (ht : M.2.2.2 = none) (hk : k ≤ mc) (hn : n ≤ ms) (hq : Q' μ) : Z S X M d mc ms (qV Q') pc lo [] μ k n :=
  Z_ret (v := none) hd (Or.inl ⟨ht, rfl, rfl⟩) hk hn ⟨rfl, hq⟩
end ZRules
end
section
/-! fields, rows and new cells -/
theorem z_in0' : ∀ w ∈ u_ws RX0 TX0 3, w ∈ lw_g := by decide +kernel
theorem z_in1 : ∀ w ∈ u_ws RX1 TX1 4, w ∈ lw_g := by decide +kernel
theorem z_in2 : ∀ w ∈ u_ws RX2 TX2 5, w ∈ lw_g := by decide +kernel
theorem z_in3 : ∀ w ∈ u_ws RX3 TX3 7, w ∈ lw_g := by decide +kernel
theorem z_in4 : ∀ w ∈ u_ws RX4 TX4 18, w ∈ lw_g := by decide +kernel
theorem z_in5 : ∀ w ∈ u_ws RX5 TX5 5, w ∈ lw_g := by decide +kernel
theorem z_in6 : ∀ w ∈ u_ws RX6 TX6 3, w ∈ lw_g := by decide +kernel
theorem z_in7 : ∀ w ∈ u_ws RX7 TX7 7, w ∈ lw_g := by decide +kernel
theorem z_in8 : ∀ w ∈ u_ws RX8 TX8 20, w ∈ lw_g := by decide +kernel
theorem z_in : ∀ c, c < 9 → ∀ w ∈ u_ws (zRn c) (zTn c) (zN c), w ∈ lw_g := z9 z_in0' z_in1 z_in2 z_in3 z_in4 z_in5 z_in6 z_in7 z_in8
theorem z_goodIn {ws : List Cond} (h : ∀ w ∈ ws, w ∈ lw_g) : GoodIn lw_g ws := fun w hw => ⟨h w hw, good_of_word (List.mem_filter.mp (h w hw)).2⟩
def zFl (own : String) (idx c j : Nat) : Prop := c < 9 ∧ j < zN c ∧ Cond.fieldLink own idx (zTn c j).1 (zTn c j).2.1 (zTn c j).2.2.1 ∈ lw_tbl
theorem va_one {D : va_G} {cl : List vw_C} {q : Nat × va_E} {H : Heap} (h : va_at D cl q H) : va_P D cl [q] H := by
  intro j x hx
  match j, hx with
  | 0, hx => cases hx; exact h
  | j + 1, hx => simp at hx
theorem zE_obj {G : zG} {b c n : Nat} {fI : Int → Int} {fL : Int → Int64} {fR : Int → Option Nat} (h : c < 9) : zE G b c n fI fL fR = .inr (c, zFs b c fI fL fR) := by
  unfold zE
  rw [if_neg (by omega), if_neg (by omega), if_neg (by omega)]
theorem zFs_at {b c k : Nat} {fI : Int → Int} {fL : Int → Int64} {fR : Int → Option Nat} (h : k < zN c) : (zFs b c fI fL fR)[k]? = some (zFv b (zty c k) fI fL fR k) := by
  simp [zFs, h]
theorem zFs_len {b c : Nat} {fI : Int → Int} {fL : Int → Int64} {fR : Int → Option Nat} : (zFs b c fI fL fR).length = zN c := by simp [zFs]
theorem zFs_set {b c k : Nat} {fI fI' : Int → Int} {fL fL' : Int → Int64} {fR fR' : Int → Option Nat} {v : Value} (h : k < zN c) (hv : zFv b (zty c k) fI' fL' fR' k = v) (ho : ∀ j : Nat, j ≠ k → fI' j = fI j ∧ fL' j = fL j ∧ fR' j = fR j) : zFs b c fI' fL' fR' = (zFs b c fI fL fR).set k v := by
  apply List.ext_getElem?
  intro j
  by_cases hj : j < zN c
  · rw [zFs_at hj]
    by_cases e : j = k
    · subst e
      rw [List.getElem?_set_self (by rw [zFs_len]; exact h), hv]
    · rw [List.getElem?_set_ne (Ne.symm e), zFs_at hj]
      obtain ⟨h1, h2, h3⟩ := ho j e
      unfold zFv
      rw [h1, h2, h3]
  · rw [List.getElem?_eq_none (by rw [zFs_len]; omega), List.getElem?_eq_none (by rw [List.length_set, zFs_len]; omega)]
theorem zR_put {G : zG} {b : Nat} {μ μ' : zMem} {H H1 : Heap} {p0 c0 n0 : Nat} (hR : zR G b μ H) (h0 : μ.1[p0]? = some (c0, n0)) (hz : H1.size = H.size) (ho : ∀ q : Nat, q ≠ b + p0 → H1[q]? = H[q]?) (hD : μ'.1 = μ.1)
    (hq : ∀ p, p ≠ p0 → gI μ' p = gI μ p ∧ gL μ' p = gL μ p ∧ gR μ' p = gR μ p) (hat : va_at G.1 vwCl (b + p0, zE G b c0 n0 (gI μ' p0) (gL μ' p0) (gR μ' p0)) H1) : zR G b μ' H1 := by
  refine ⟨by rw [hz, hR.1, hD], fun p k n h => ?_⟩
  rw [hD] at h
  by_cases e : p = p0
  · subst e
    rw [h0] at h
    cases h
    exact hat
  · obtain ⟨h1, h2, h3⟩ := hq p e
    rw [h1, h2, h3]
    exact (hR.2 p k n h).kept (ho (b + p) (by omega))
theorem zR_new {G : zG} {b k0 n0 : Nat} {μ : zMem} {H H1 : Heap} (hR : zR G b μ H) (hz : H1.size = H.size + 1) (ho : ∀ q : Nat, q < H.size → H1[q]? = H[q]?) (hat : va_at G.1 vwCl (b + μ.1.length, zE G b k0 n0 (fun _ => 0) (fun _ => 0) (fun _ => none)) H1) : zR G b (aD μ k0 n0) H1 := by
  refine ⟨by rw [hz, hR.1]; simp [aD]; omega, fun p k n h => ?_⟩
  by_cases e : p < μ.1.length
  · have h' : μ.1[p]? = some (k, n) := by
      simp only [aD] at h
      rwa [List.getElem?_append_left e] at h
    have e' : ¬ p = μ.1.length := by omega
    have g1 : gI (aD μ k0 n0) p = gI μ p := by simp [gI, aD, zf, e']
    have g2 : gL (aD μ k0 n0) p = gL μ p := by simp [gL, aD, zf, e']
    have g3 : gR (aD μ k0 n0) p = gR μ p := by simp [gR, aD, zf, e']
    rw [g1, g2, g3]
    exact (hR.2 p k n h').kept (ho (b + p) (by rw [hR.1]; omega))
  · simp only [aD] at h
    rw [List.getElem?_append_right (by omega)] at h
    have hz : p - μ.1.length < 1 := (List.getElem?_eq_some_iff.mp h).1
    have e' : p = μ.1.length := by omega
    subst e'
    rw [Nat.sub_self] at h
    cases h
    have g1 : gI (aD μ k0 n0) μ.1.length = fun _ => 0 := by simp [gI, aD, zf]
    have g2 : gL (aD μ k0 n0) μ.1.length = fun _ => 0 := by simp [gL, aD, zf]
    have g3 : gR (aD μ k0 n0) μ.1.length = fun _ => none := by simp [gR, aD, zf]
    rw [g1, g2, g3]
    exact hat
theorem zSh_aD {S : zS} {μ : zMem} {k0 n0 : Nat} (h : zSh S μ) : zSh S (aD μ k0 n0) := by
  refine ⟨fun p k q hq => ?_, fun p x hx => ?_⟩
  · obtain ⟨h1, h2⟩ := h.1 p k q hq
    refine ⟨by simp [aD]; omega, ?_⟩
    rw [← h2]
    simp [gR, aD, zf, show ¬ p = μ.1.length by omega]
  · have h1 := h.2 p x hx
    have hl := (List.getElem?_eq_some_iff.mp h1).1
    simp only [aD]
    rw [List.getElem?_append_left hl]
    exact h1
theorem zSh_sI {S : zS} {μ : zMem} {p : Nat} {i v : Int} (h : zSh S μ) : zSh S (sI μ p i v) := h
theorem zSh_sL {S : zS} {μ : zMem} {p : Nat} {i : Int} {v : Int64} (h : zSh S μ) : zSh S (sL μ p i v) := h
theorem zSh_sR {S : zS} {μ : zMem} {p0 j0 : Nat} {v : Option Nat} (h : zSh S μ) (hs : S.1 p0 j0 = none ∨ S.1 p0 j0 = v) : zSh S (sR μ p0 j0 v) := by
  refine ⟨fun p k q hq => ?_, h.2⟩
  obtain ⟨h1, h2⟩ := h.1 p k q hq
  refine ⟨h1, ?_⟩
  show zu (gR μ) p0 j0 v p k = some q
  unfold zu
  by_cases e : p = p0 ∧ (k : Int) = (j0 : Int)
  · rw [if_pos e]
    obtain ⟨e1, e2⟩ := e
    have e2 : k = j0 := by omega
    subst e1; subst e2
    rcases hs with hs | hs
    · rw [hq] at hs; cases hs
    · rw [← hs, hq]
  · rw [if_neg e]
    exact h2
section ZHeap
variable {S : zS} {X : zX} {M : zMt} {d mc ms : Nat} {Q : Option Value → zMem → Prop} {pc pc' tgt : Nat} {lo lo' : List (Option Value)} {st : List Value} {μ : zMem} {k n : Nat}
theorem Z_getv {p0 c0 n0 j idx : Nat} {v : Value} (hd : decode M.2.1 pc = .ok (.getfield idx, 3)) (hp : pc + 3 = pc') (hf : zFl M.1.cls idx c0 j) (hh : zH S μ p0 c0 n0) (hv : zSh S μ → ∀ b bs, zFv b (zty c0 j) (gI μ p0) (gL μ p0) (gR μ p0) j = zt b bs v) (K : Z S X M d mc ms Q pc' lo (v :: st) μ k n) : Z S X M d mc ms Q pc lo (.ref p0 :: st) μ k n := by
  subst hp
  intro p l e R s m args below meth c b bs G QF H locs ls C h1 h2 h3 h4
  have hat := h2.2 p0 c0 n0 (hh.at h1)
  rw [zE_obj hf.1] at hat
  exact va_get C.1 C.2.1 C.2.2.2.2.1 (z_in c0 hf.1) C.2.2.2.1 C.2.2.2.2.2.1.1 (va_one hat) 0 rfl (z_cl c0 hf.1) j hf.2.1 (C.2.2.2.2.1 _ (lw_in hf.2.2 rfl)) (fun _ h => h) (by rw [zFs_at hf.2.1, hv h1 b bs]) hd (K _ _ _ _ _ _ _ _ _ _ _ _ _ _ _ _ _ C h1 h2 h3 h4)
theorem Z_getI {p0 c0 n0 j idx : Nat} (hd : decode M.2.1 pc = .ok (.getfield idx, 3)) (hp : pc + 3 = pc') (hf : zFl M.1.cls idx c0 j) (ht : zty c0 j = .int) (hh : zH S μ p0 c0 n0) (K : Z S X M d mc ms Q pc' lo (vi (gI μ p0 j) :: st) μ k n) : Z S X M d mc ms Q pc lo (.ref p0 :: st) μ k n :=
  Z_getv hd hp hf hh (fun _ b bs => by rw [ht]; rfl) K
theorem Z_getB {p0 c0 n0 j idx : Nat} (hd : decode M.2.1 pc = .ok (.getfield idx, 3)) (hp : pc + 3 = pc') (hf : zFl M.1.cls idx c0 j) (ht : zty c0 j = .boolean) (hh : zH S μ p0 c0 n0) (K : Z S X M d mc ms Q pc' lo (vi (gI μ p0 j) :: st) μ k n) : Z S X M d mc ms Q pc lo (.ref p0 :: st) μ k n :=
  Z_getv hd hp hf hh (fun _ b bs => by rw [ht]; rfl) K
theorem Z_getJ {p0 c0 n0 j idx : Nat} (hd : decode M.2.1 pc = .ok (.getfield idx, 3)) (hp : pc + 3 = pc') (hf : zFl M.1.cls idx c0 j) (ht : zty c0 j = .long) (hh : zH S μ p0 c0 n0) (K : Z S X M d mc ms Q pc' lo (.long (gL μ p0 j) :: st) μ k n) : Z S X M d mc ms Q pc lo (.ref p0 :: st) μ k n :=
  Z_getv hd hp hf hh (fun _ b bs => by rw [ht]; rfl) K
def zRty : FieldType → Bool
  | .object _ => true
  | .array _ => true
  | _ => false
theorem zFv_ref {b : Nat} {ty : FieldType} {fI : Int → Int} {fL : Int → Int64} {fR : Int → Option Nat} {k : Nat} (h : zRty ty = true) : zFv b ty fI fL fR k = va_rf ((fR k).map (b + ·)) := by
  cases ty <;> first | (simp [zRty] at h; done) | rfl
theorem Z_getO {p0 c0 n0 j idx : Nat} (hd : decode M.2.1 pc = .ok (.getfield idx, 3)) (hp : pc + 3 = pc') (hf : zFl M.1.cls idx c0 j) (ht : zRty (zty c0 j) = true) (hh : zH S μ p0 c0 n0) (K : Z S X M d mc ms Q pc' lo (va_rf (gR μ p0 j) :: st) μ k n) : Z S X M d mc ms Q pc lo (.ref p0 :: st) μ k n :=
  Z_getv hd hp hf hh (fun _ b bs => by rw [zFv_ref ht, zt_rf]) K
/-- a reference that stands, or is known -/
theorem Z_getR {p0 c0 n0 j idx q : Nat} (hd : decode M.2.1 pc = .ok (.getfield idx, 3)) (hp : pc + 3 = pc') (hf : zFl M.1.cls idx c0 j) (ht : zRty (zty c0 j) = true) (hh : zH S μ p0 c0 n0) (hq : S.1 p0 j = some q ∨ gR μ p0 j = some q) (K : Z S X M d mc ms Q pc' lo (.ref q :: st) μ k n) : Z S X M d mc ms Q pc lo (.ref p0 :: st) μ k n :=
  Z_getv hd hp hf hh (fun h b bs => by
    have e : gR μ p0 j = some q := hq.elim (fun z => (h.1 _ _ _ z).2) id
    rw [zFv_ref ht, e]
    rfl) K
theorem zput {p0 c0 n0 j idx : Nat} {v : Value} {μ' : zMem} (hd : decode M.2.1 pc = .ok (.putfield idx, 3)) (hp : pc + 3 = pc') (hf : zFl M.1.cls idx c0 j) (hfin : (zTn c0 j).2.2.2 = false ∨ (M.1.name = "<init>" ∧ (zTn c0 j).1 = M.1.cls)) (hh : zH S μ p0 c0 n0)
    (hn : ∀ b bs, narrow (zty c0 j) (zt b bs v) = zt b bs v) (hfit : ∀ b bs, fits (zty c0 j) (zt b bs v) = true) (hD : μ'.1 = μ.1) (hq : ∀ p, p ≠ p0 → gI μ' p = gI μ p ∧ gL μ' p = gL μ p ∧ gR μ' p = gR μ p)
    (hv : ∀ b bs, zFv b (zty c0 j) (gI μ' p0) (gL μ' p0) (gR μ' p0) j = zt b bs v) (ho : ∀ i : Nat, i ≠ j → gI μ' p0 i = gI μ p0 i ∧ gL μ' p0 i = gL μ p0 i ∧ gR μ' p0 i = gR μ p0 i) (hsh : zSh S μ → zSh S μ') (K : Z S X M d mc ms Q pc' lo st μ' k n) : Z S X M d mc ms Q pc lo (v :: .ref p0 :: st) μ k n := by
  subst hp
  intro p l e R s m args below meth c b bs G QF H locs ls C h1 h2 h3 h4
  have h0 := hh.at h1
  have hat := h2.2 p0 c0 n0 h0
  rw [zE_obj hf.1] at hat
  have hc := z_cl c0 hf.1
  have hts := C.2.2.2.2.1
  have hin := z_in c0 hf.1
  have hown := C.2.2.2.1
  have hK := C.2.2.2.2.2.1.1
  have hlink := hts _ (lw_in hf.2.2 rfl)
  have hap := va_apart (own := M.1.cls) hts hin (zty c0) (z_ty c0 hf.1) (z_nm c0 hf.1) hK hc
  obtain ⟨r, g1, cell, q1, q2, q3, q4⟩ := hat
  have hr : r = (zRn c0, zTn c0, zN c0) := Option.some.inj (g1.symm.trans hc)
  subst hr
  obtain ⟨hS, hfc, kC, hkC, hkind⟩ := hK.1 c0 _ hc
  obtain ⟨cf, kf, fi, f, hi, hsl⟩ := hS j hf.2.1
  have hst := (u_facts hfc hkC (u_lays hts hin hf.2.1) hi).1
  have hlay := hts _ (hin _ (u_in_lay hf.2.1))
  have fin : ∀ H' : Heap, H'[b + p0]? = some (cell.setSlot f.slot (zt b bs v)) → H'.size = H.size → (∀ q, q ≠ b + p0 → H'[q]? = H[q]?) → W p l e R s m args below meth c H' (locs ++ [⟨b + p0, f.slot⟩]) k n QF (F0 m (pc + 3) ls (st.map (zt b bs))) := by
    intro H' e1 e2 e3
    rw [hsl] at e1 ⊢
    refine K _ _ _ _ _ _ _ _ _ _ _ _ _ _ _ _ _ C (hsh h1) (zR_put h2 h0 e2 e3 hD hq ?_) (h3.put e2 e3 (Nat.le_add_right b p0)) h4
    rw [zE_obj hf.1, zFs_set hf.2.1 (hv b bs) ho]
    exact ⟨_, hc, t_OB.to (V := updV (vp_V _) j (zt b bs v)) ⟨_, e1, q2, q3, t_set q4 hap hf.2.1 _⟩ (fun i _ => vp_updV_set (by rw [zFs_len]; exact hf.2.1) _ i)⟩
  by_cases hfi : (zTn c0 j).2.2.2 = false
  · unfold u_lay at hlay
    rw [if_neg (by rw [hfi]; decide)] at hlay
    have h6 := u_store hfc hkC hkind hlay hi (z_ty c0 hf.1 j hf.2.1) (hn b bs) (hfit b bs)
    exact W.putK C.1 C.2.1 (f := f) ⟨hown, hlink, ⟨_, _, _, hi⟩, hst⟩ (by rw [q2]; exact h6) q1 q3 (by rw [hsl]; exact k2_hasslot (q4 j hf.2.1)) rfl rfl hd fin
  · obtain ⟨f1, f2⟩ := hfin.resolve_left hfi
    unfold u_lay at hlay
    rw [if_pos (by simpa using hfi)] at hlay
    have hcf : m.cls = cf := by
      obtain ⟨_, _, c', _, _, _, -, -, hf', -, -, -, hown2, -⟩ := Cond.laysFinal_spec hlay
      have e1 : c' = cf := by have := hi.symm.trans hf'; simp at this; exact this.1.symm
      rw [f2] at hown2
      rw [← e1]; exact Option.some.inj (hown.symm.trans hown2)
    have h6 := u_fits hfc hkC hkind (Or.inr hlay) hi (z_ty c0 hf.1 j hf.2.1) (hn b bs) (hfit b bs)
    exact W.putFinK C.1 C.2.1 hown hlink hi hst hcf (C.2.2.2.2.2.2.1 f1) (by rw [q2]; exact h6) q1 q3 (by rw [hsl]; exact k2_hasslot (q4 j hf.2.1)) rfl rfl hd fin
theorem zu_ne {α : Type} {f : Nat → Int → α} {p q : Nat} {i : Int} {v : α} (h : q ≠ p) : zu f p i v q = f q := by
  funext j
  simp [zu, h]
theorem zu_self {α : Type} {f : Nat → Int → α} {p : Nat} {i : Int} {v : α} : zu f p i v p i = v := by simp [zu]
theorem zu_off {α : Type} {f : Nat → Int → α} {p : Nat} {i j : Int} {v : α} (h : j ≠ i) : zu f p i v p j = f p j := by simp [zu, h]
theorem Z_putI {p0 c0 n0 j idx : Nat} {z : Int} (hd : decode M.2.1 pc = .ok (.putfield idx, 3)) (hp : pc + 3 = pc') (hf : zFl M.1.cls idx c0 j) (hfin : (zTn c0 j).2.2.2 = false ∨ (M.1.name = "<init>" ∧ (zTn c0 j).1 = M.1.cls)) (ht : zty c0 j = .int) (hh : zH S μ p0 c0 n0)
    (K : Z S X M d mc ms Q pc' lo st (sI μ p0 j z) k n) : Z S X M d mc ms Q pc lo (vi z :: .ref p0 :: st) μ k n :=
  zput (v := vi z) (μ' := sI μ p0 j z) hd hp hf hfin hh (fun b bs => by rw [ht]; rfl) (fun b bs => by rw [ht]; rfl) rfl (fun p h => ⟨zu_ne h, rfl, rfl⟩) (fun b bs => by rw [ht]; show vi (zu _ _ _ _ _ _) = _; rw [zu_self]; rfl) (fun i h => ⟨zu_off (by omega), rfl, rfl⟩) zSh_sI K
theorem Z_putB {p0 c0 n0 j idx : Nat} {z : Int} (hd : decode M.2.1 pc = .ok (.putfield idx, 3)) (hp : pc + 3 = pc') (hf : zFl M.1.cls idx c0 j) (hfin : (zTn c0 j).2.2.2 = false ∨ (M.1.name = "<init>" ∧ (zTn c0 j).1 = M.1.cls)) (ht : zty c0 j = .boolean) (hz : z = 0 ∨ z = 1) (hh : zH S μ p0 c0 n0)
    (K : Z S X M d mc ms Q pc' lo st (sI μ p0 j z) k n) : Z S X M d mc ms Q pc lo (vi z :: .ref p0 :: st) μ k n :=
  zput (v := vi z) (μ' := sI μ p0 j z) hd hp hf hfin hh (fun b bs => by rw [ht]; rcases hz with rfl | rfl <;> rfl) (fun b bs => by rw [ht]; rcases hz with rfl | rfl <;> rfl) rfl (fun p h => ⟨zu_ne h, rfl, rfl⟩) (fun b bs => by rw [ht]; show vi (zu _ _ _ _ _ _) = _; rw [zu_self]; rfl) (fun i h => ⟨zu_off (by omega), rfl, rfl⟩) zSh_sI K
theorem Z_putJ {p0 c0 n0 j idx : Nat} {z : Int64} (hd : decode M.2.1 pc = .ok (.putfield idx, 3)) (hp : pc + 3 = pc') (hf : zFl M.1.cls idx c0 j) (hfin : (zTn c0 j).2.2.2 = false ∨ (M.1.name = "<init>" ∧ (zTn c0 j).1 = M.1.cls)) (ht : zty c0 j = .long) (hh : zH S μ p0 c0 n0)
    (K : Z S X M d mc ms Q pc' lo st (sL μ p0 j z) k n) : Z S X M d mc ms Q pc lo (.long z :: .ref p0 :: st) μ k n :=
  zput (v := .long z) (μ' := sL μ p0 j z) hd hp hf hfin hh (fun b bs => by rw [ht]; rfl) (fun b bs => by rw [ht]; rfl) rfl (fun p h => ⟨rfl, zu_ne h, rfl⟩) (fun b bs => by rw [ht]; show Value.long (zu _ _ _ _ _ _) = _; rw [zu_self]; rfl) (fun i h => ⟨rfl, zu_off (by omega), rfl⟩) zSh_sL K
theorem zRty_n {ty : FieldType} (h : zRty ty = true) (o : Option Nat) : narrow ty (va_rf o) = va_rf o ∧ fits ty (va_rf o) = true := by
  cases ty <;> first | (simp [zRty] at h; done) | (cases o <;> exact ⟨rfl, rfl⟩)
theorem Z_putO {p0 c0 n0 j idx : Nat} {o : Option Nat} (hd : decode M.2.1 pc = .ok (.putfield idx, 3)) (hp : pc + 3 = pc') (hf : zFl M.1.cls idx c0 j) (hfin : (zTn c0 j).2.2.2 = false ∨ (M.1.name = "<init>" ∧ (zTn c0 j).1 = M.1.cls)) (ht : zRty (zty c0 j) = true) (hh : zH S μ p0 c0 n0) (hs : S.1 p0 j = none ∨ S.1 p0 j = o)
    (K : Z S X M d mc ms Q pc' lo st (sR μ p0 j o) k n) : Z S X M d mc ms Q pc lo (va_rf o :: .ref p0 :: st) μ k n :=
  zput (v := va_rf o) (μ' := sR μ p0 j o) hd hp hf hfin hh (fun b bs => by rw [zt_rf]; exact (zRty_n ht _).1) (fun b bs => by rw [zt_rf]; exact (zRty_n ht _).2) rfl (fun p h => ⟨rfl, rfl, zu_ne h⟩) (fun b bs => by rw [zFv_ref ht, zt_rf]; show va_rf (Option.map _ (zu _ _ _ _ _ _)) = _; rw [zu_self]) (fun i h => ⟨rfl, rfl, zu_off (by omega)⟩) (fun h => zSh_sR h hs) K
theorem Z_putR {p0 c0 n0 j idx q : Nat} (hd : decode M.2.1 pc = .ok (.putfield idx, 3)) (hp : pc + 3 = pc') (hf : zFl M.1.cls idx c0 j) (hfin : (zTn c0 j).2.2.2 = false ∨ (M.1.name = "<init>" ∧ (zTn c0 j).1 = M.1.cls)) (ht : zRty (zty c0 j) = true) (hh : zH S μ p0 c0 n0) (hs : S.1 p0 j = none ∨ S.1 p0 j = some q)
    (K : Z S X M d mc ms Q pc' lo st (sR μ p0 j (some q)) k n) : Z S X M d mc ms Q pc lo (.ref q :: .ref p0 :: st) μ k n :=
  Z_putO (o := some q) hd hp hf hfin ht hh hs K
/-! rows -/
theorem zE_i {G : zG} {b n : Nat} {fI : Int → Int} {fL : Int → Int64} {fR : Int → Option Nat} : zE G b 9 n fI fL fR = .inl (G.2.1, n, .inl (fun i => Int32.ofInt (fI i))) := rfl
theorem zE_l {G : zG} {b n : Nat} {fI : Int → Int} {fL : Int → Int64} {fR : Int → Option Nat} : zE G b 10 n fI fL fR = .inl (G.2.2.1, n, .inr (.inl (fun i => fL i))) := rfl
theorem zE_q {G : zG} {b n : Nat} {fI : Int → Int} {fL : Int → Int64} {fR : Int → Option Nat} : zE G b 11 n fI fL fR = .inl (G.2.2.2, n, .inr (.inr (.inr (.inr (fun i => (fR i).map (b + ·)))))) := rfl
theorem z_inn {i : Int} {n0 : Nat} (h0 : 0 ≤ i) (h1 : i < n0) (h2 : n0 ≤ 2147483647) : zIn i := ⟨by omega, by omega⟩
theorem z_nat {i : Int} (h0 : 0 ≤ i) : ((i.toNat : Nat) : Int) = i := by omega
theorem Z_iaload {p0 n0 : Nat} {i : Int} (hd : decode M.2.1 pc = .ok (.iaload, 1)) (hp : pc + 1 = pc') (hh : zH S μ p0 9 n0) (hn : n0 ≤ 2147483647) (i0 : 0 ≤ i) (i1 : i < n0) (K : Z S X M d mc ms Q pc' lo (vi (gI μ p0 i) :: st) μ k n) : Z S X M d mc ms Q pc lo (vi i :: .ref p0 :: st) μ k n := by
  subst hp
  intro p l e R s m args below meth c b bs G QF H locs ls C h1 h2 h3 h4
  have hat := h2.2 p0 9 n0 (hh.at h1)
  have hz := z_inn i0 i1 hn
  refine va_iald C.1 C.2.1 C.2.2.2.2.2.1.1 (va_one hat) 0 0 (by rw [zE_i]; rfl) rfl (z_vp hz i0 i1) hd ?_
  rw [z_clamp hz i0, z_nat i0]
  exact K _ _ _ _ _ _ _ _ _ _ _ _ _ _ _ _ _ C h1 h2 h3 h4
theorem Z_laload {p0 n0 : Nat} {i : Int} (hd : decode M.2.1 pc = .ok (.laload, 1)) (hp : pc + 1 = pc') (hh : zH S μ p0 10 n0) (hn : n0 ≤ 2147483647) (i0 : 0 ≤ i) (i1 : i < n0) (K : Z S X M d mc ms Q pc' lo (.long (gL μ p0 i) :: st) μ k n) : Z S X M d mc ms Q pc lo (vi i :: .ref p0 :: st) μ k n := by
  subst hp
  intro p l e R s m args below meth c b bs G QF H locs ls C h1 h2 h3 h4
  have hat := h2.2 p0 10 n0 (hh.at h1)
  have hz := z_inn i0 i1 hn
  refine va_lald C.1 C.2.1 C.2.2.2.2.2.1.1 (va_one hat) 0 1 (by rw [zE_l]; rfl) rfl (z_vp hz i0 i1) hd ?_
  rw [z_clamp hz i0, z_nat i0]
  exact K _ _ _ _ _ _ _ _ _ _ _ _ _ _ _ _ _ C h1 h2 h3 h4
theorem Z_aaload {p0 n0 q : Nat} {i : Int} (hd : decode M.2.1 pc = .ok (.aaload, 1)) (hp : pc + 1 = pc') (hh : zH S μ p0 11 n0) (hn : n0 ≤ 2147483647) (i0 : 0 ≤ i) (i1 : i < n0) (hq : gR μ p0 i = some q) (K : Z S X M d mc ms Q pc' lo (.ref q :: st) μ k n) : Z S X M d mc ms Q pc lo (vi i :: .ref p0 :: st) μ k n := by
  subst hp
  intro p l e R s m args below meth c b bs G QF H locs ls C h1 h2 h3 h4
  have hat := h2.2 p0 11 n0 (hh.at h1)
  have hz := z_inn i0 i1 hn
  refine va_aldq C.1 C.2.1 C.2.2.2.2.2.1.1 (va_one hat) 0 2 (by rw [zE_q]; rfl) rfl (z_vp hz i0 i1) hd ?_
  rw [z_clamp hz i0, z_nat i0, hq]
  exact K _ _ _ _ _ _ _ _ _ _ _ _ _ _ _ _ _ C h1 h2 h3 h4
theorem Z_alen {p0 k0 n0 : Nat} (hd : decode M.2.1 pc = .ok (.arraylength, 1)) (hp : pc + 1 = pc') (hh : zH S μ p0 k0 n0) (hk : k0 = 9 ∨ k0 = 10) (K : Z S X M d mc ms Q pc' lo (vi (n0 : Int) :: st) μ k n) : Z S X M d mc ms Q pc lo (.ref p0 :: st) μ k n := by
  subst hp
  intro p l e R s m args below meth c b bs G QF H locs ls C h1 h2 h3 h4
  have hat := h2.2 p0 k0 n0 (hh.at h1)
  rcases hk with rfl | rfl
  · exact va_alen (x := (n0, .inl (fun i : Nat => Int32.ofInt (gI μ p0 i)))) C.1 C.2.1 C.2.2.2.2.2.1.1 (va_one hat) 0 0 (by rw [zE_i]; rfl) rfl Int32.ofInt_eq_ofNat.symm hd (K _ _ _ _ _ _ _ _ _ _ _ _ _ _ _ _ _ C h1 h2 h3 h4)
  · exact va_alen (x := (n0, .inr (.inl (fun i : Nat => gL μ p0 i)))) C.1 C.2.1 C.2.2.2.2.2.1.1 (va_one hat) 0 1 (by rw [zE_l]; rfl) rfl Int32.ofInt_eq_ofNat.symm hd (K _ _ _ _ _ _ _ _ _ _ _ _ _ _ _ _ _ C h1 h2 h3 h4)
theorem Z_iastore {p0 n0 : Nat} {i z : Int} (hd : decode M.2.1 pc = .ok (.iastore, 1)) (hp : pc + 1 = pc') (hh : zH S μ p0 9 n0) (hn : n0 ≤ 2147483647) (i0 : 0 ≤ i) (i1 : i < n0) (K : Z S X M d mc ms Q pc' lo st (sI μ p0 i z) k n) : Z S X M d mc ms Q pc lo (vi z :: vi i :: .ref p0 :: st) μ k n := by
  subst hp
  intro p l e R s m args below meth c b bs G QF H locs ls C h1 h2 h3 h4
  have h0 := hh.at h1
  have hat := h2.2 p0 9 n0 h0
  rw [zE_i] at hat
  have hz := z_inn i0 i1 hn
  have hK := C.2.2.2.2.2.1.1
  refine W.iast C.1 C.2.1 hat ((hK.2 0 _ rfl).1 n0 (fun j => .int (Int32.ofInt (gI μ p0 j)))) (fun q => by cases q) (by show ¬ (_ ∨ (arrV _ _ _).slots.size ≤ _); rw [arrV_size]; exact z_vp hz i0 i1) rfl rfl hd fun H1 e1 z1 oq => ?_
  refine K _ _ _ _ _ _ _ _ _ _ _ _ _ _ _ _ _ C (zSh_sI h1) (zR_put h2 h0 z1 oq rfl (fun p h => ⟨zu_ne h, rfl, rfl⟩) ?_) (h3.put z1 oq (Nat.le_add_right b p0)) h4
  rw [zE_i]
  show H1[b + p0]? = some (vp_cell _ _)
  rw [e1, vp_cell_i, vp_cell_i, arrV_store, z_clamp hz i0]
  congr 2
  funext q
  show updV _ _ _ _ = Value.int (Int32.ofInt (zu _ _ _ _ _ _))
  by_cases hq : q = i.toNat
  · subst hq
    rw [z_nat i0, zu_self]
    simp [updV]
  · rw [zu_off (by omega)]
    simp [updV, hq]
    rfl
theorem Z_lastore {p0 n0 : Nat} {i : Int} {z : Int64} (hd : decode M.2.1 pc = .ok (.lastore, 1)) (hp : pc + 1 = pc') (hh : zH S μ p0 10 n0) (hn : n0 ≤ 2147483647) (i0 : 0 ≤ i) (i1 : i < n0) (K : Z S X M d mc ms Q pc' lo st (sL μ p0 i z) k n) : Z S X M d mc ms Q pc lo (.long z :: vi i :: .ref p0 :: st) μ k n := by
  subst hp
  intro p l e R s m args below meth c b bs G QF H locs ls C h1 h2 h3 h4
  have h0 := hh.at h1
  have hat := h2.2 p0 10 n0 h0
  rw [zE_l] at hat
  have hz := z_inn i0 i1 hn
  have hK := C.2.2.2.2.2.1.1
  refine W.last C.1 C.2.1 hat ((hK.2 1 _ rfl).1 n0 (fun j => .long (gL μ p0 j))) (fun q => by cases q) (by show ¬ (_ ∨ (arrV _ _ _).slots.size ≤ _); rw [arrV_size]; exact z_vp hz i0 i1) rfl rfl hd fun H1 e1 z1 oq => ?_
  refine K _ _ _ _ _ _ _ _ _ _ _ _ _ _ _ _ _ C (zSh_sL h1) (zR_put h2 h0 z1 oq rfl (fun p h => ⟨rfl, zu_ne h, rfl⟩) ?_) (h3.put z1 oq (Nat.le_add_right b p0)) h4
  rw [zE_l]
  show H1[b + p0]? = some (vp_cell _ _)
  rw [e1, vp_cell_l, vp_cell_l, arrV_store, z_clamp hz i0]
  congr 2
  funext q
  show updV _ _ _ _ = Value.long (zu _ _ _ _ _ _)
  by_cases hq : q = i.toNat
  · subst hq
    rw [z_nat i0, zu_self]
    simp [updV]
  · rw [zu_off (by omega)]
    simp [updV, hq]
    rfl
theorem Z_aastore {p0 n0 q m0 : Nat} {i : Int} (hd : decode M.2.1 pc = .ok (.aastore, 1)) (hp : pc + 1 = pc') (hh : zH S μ p0 11 n0) (hn : n0 ≤ 2147483647) (i0 : 0 ≤ i) (i1 : i < n0) (hq : zH S μ q 5 m0) (hs : S.1 p0 i.toNat = none) (K : Z S X M d mc ms Q pc' lo st (sR μ p0 i (some q)) k n) : Z S X M d mc ms Q pc lo (.ref q :: vi i :: .ref p0 :: st) μ k n := by
  subst hp
  intro p l e R s m args below meth c b bs G QF H locs ls C h1 h2 h3 h4
  have h0 := hh.at h1
  have hat := h2.2 p0 11 n0 h0
  rw [zE_q] at hat
  have hz := z_inn i0 i1 hn
  have hK := C.2.2.2.2.2.1.1
  have hatq := h2.2 q 5 m0 (hq.at h1)
  rw [zE_obj (by omega)] at hatq
  obtain ⟨r', hr', cellV, g1, g2, g3, -⟩ := hatq
  have hcls := (hK.1 5 _ (z_cl 5 (by omega))).2
  obtain ⟨kA, comp, k1, k2, k3, -⟩ := (hK.2 2 _ rfl).2
  have hcomp : comp = G.1.1 5 := Option.some.inj (k3.symm.trans hcls.1)
  subst hcomp
  obtain ⟨kC, hkC, -⟩ := hcls.2
  have hv := z_vp hz i0 i1
  refine W.aast C.1 C.2.1 hat (fun q h => by cases h) (fun h => by cases h) k1 k2 rfl hkC ⟨fun h => hv (Or.inl h), by show _ < (arrV _ _ _).slots.size; rw [arrV_size]; exact Nat.not_le.mp (fun h => hv (Or.inr h))⟩ g1 (fun q h => by rw [g3] at h; cases h) (by rw [g2]; exact hkC) (by rw [g2]; exact va_assign hcls) rfl rfl hd fun H1 e1 z1 oq => ?_
  refine K _ _ _ _ _ _ _ _ _ _ _ _ _ _ _ _ _ C (by have := zSh_sR (v := some q) h1 (Or.inl hs); rwa [z_nat i0] at this) (zR_put h2 h0 z1 oq rfl (fun p h => ⟨rfl, rfl, zu_ne h⟩) ?_) (h3.put z1 oq (Nat.le_add_right b p0)) h4
  rw [zE_q]
  show H1[b + p0]? = some (vp_cell _ _)
  rw [e1, vp_cell_q, vp_cell_q, arrV_store, z_clamp hz i0]
  congr 2
  funext q
  show updV _ _ _ _ = va_rf (Option.map _ (zu _ _ _ _ _ _))
  by_cases hq : q = i.toNat
  · subst hq
    rw [z_nat i0, zu_self]
    simp [updV, va_rf]
  · rw [zu_off (by omega)]
    simp [updV, hq]
    rfl
/-! the law's script -/
theorem Z_sld {L : Nat} {f : Nat → Int32} {i : Int} {w : UInt32} (hX : X = some (L, f)) (hd : decode M.2.1 pc = .ok (.iaload, 1)) (hp : pc + 1 = pc') (hn : L ≤ 2147483647) (i0 : 0 ≤ i) (i1 : i < L) (K : Z S X M d mc ms Q pc' lo (vi (f i.toNat).toInt :: st) μ k n) : Z S X M d mc ms Q pc lo (vi i :: .float w :: st) μ k n := by
  subst hp
  intro p l e R s m args below meth c b bs G QF H locs ls C h1 h2 h3 h4
  obtain ⟨g1, g2, g3⟩ := C.2.2.2.2.2.2.2.2.2.1 L f hX
  have hz := z_inn i0 i1 hn
  refine va_sld C.1 C.2.1 g1 g2 (A := fun q => b ≤ q) (Nat.not_le.mpr g3) h3 (z_vp hz i0 i1) hd ?_
  rw [z_clamp hz i0, z_ofInt_toInt]
  exact K _ _ _ _ _ _ _ _ _ _ _ _ _ _ _ _ _ C h1 h2 h3 h4
theorem Z_slen {L : Nat} {f : Nat → Int32} {w : UInt32} (hX : X = some (L, f)) (hd : decode M.2.1 pc = .ok (.arraylength, 1)) (hp : pc + 1 = pc') (K : Z S X M d mc ms Q pc' lo (vi (L : Int) :: st) μ k n) : Z S X M d mc ms Q pc lo (.float w :: st) μ k n := by
  subst hp
  intro p l e R s m args below meth c b bs G QF H locs ls C h1 h2 h3 h4
  obtain ⟨g1, g2, g3⟩ := C.2.2.2.2.2.2.2.2.2.1 L f hX
  refine va_slen C.1 C.2.1 g1 g2 (A := fun q => b ≤ q) (Nat.not_le.mpr g3) h3 hd ?_
  rw [← Int32.ofInt_eq_ofNat]
  exact K _ _ _ _ _ _ _ _ _ _ _ _ _ _ _ _ _ C h1 h2 h3 h4
/-! new cells -/
theorem Z_newI {z : Int} (hd : decode M.2.1 pc = .ok (.newarray .int, 2)) (hp : pc + 2 = pc') (z0 : 0 ≤ z) (z1 : z ≤ 100000) (hk : k + 1 ≤ mc) (hn : n + z.toNat ≤ ms) (hc : Cond.arrayClass .int ∈ lw_tbl) (K : Z S X M d mc ms Q pc' lo (.ref (gD μ).length :: st) (aD μ 9 z.toNat) (k + 1) (n + z.toNat)) : Z S X M d mc ms Q pc lo (vi z :: st) μ k n := by
  subst hp
  intro p l e R s m args below meth c b bs G QF H locs ls C h1 h2 h3 h4
  have hz : zIn z := ⟨by omega, by omega⟩
  have hK := C.2.2.2.2.2.1.1
  have hrm := C.2.2.2.2.2.2.2.2.1
  refine va_newaK (atype := .int) (N := z.toNat) C.1 C.2.1 (C.2.2.2.2.1 _ (lw_in hc rfl)) rfl hd rfl (fun h => (z_vp (n := 100001) hz z0 (by omega)) (Or.inl h)) (z_clamp hz z0) (by show z.toNat * 4 ≤ _; omega) (by omega) (by omega) rfl fun H1 cA e1 s1 o1 hAr hNm => ?_
  have hcA : cA = G.2.1 := Option.some.inj (hNm.symm.trans (hK.2 0 _ rfl).2)
  subst hcA
  have hS : va_S (fun q => b ≤ q) s.heap H1 locs := ⟨Nat.le_trans h3.1 (by omega), fun q g1 g2 => (o1 q (Nat.lt_of_lt_of_le g1 h3.1)).trans (h3.2.1 q g1 g2), h3.2.2⟩
  have hR := zR_new (k0 := 9) (n0 := z.toNat) h2 s1 o1 (by
    rw [zE_i, ← h2.1]
    exact e1)
  have := K _ _ _ _ _ _ _ _ _ _ _ _ _ _ _ _ _ C (zSh_aD h1) hR hS h4
  rw [h2.1]
  exact this
theorem Z_newJ {z : Int} (hd : decode M.2.1 pc = .ok (.newarray .long, 2)) (hp : pc + 2 = pc') (z0 : 0 ≤ z) (z1 : z ≤ 100000) (hk : k + 1 ≤ mc) (hn : n + z.toNat ≤ ms) (hc : Cond.arrayClass .long ∈ lw_tbl) (K : Z S X M d mc ms Q pc' lo (.ref (gD μ).length :: st) (aD μ 10 z.toNat) (k + 1) (n + z.toNat)) : Z S X M d mc ms Q pc lo (vi z :: st) μ k n := by
  subst hp
  intro p l e R s m args below meth c b bs G QF H locs ls C h1 h2 h3 h4
  have hz : zIn z := ⟨by omega, by omega⟩
  have hK := C.2.2.2.2.2.1.1
  have hrm := C.2.2.2.2.2.2.2.2.1
  refine va_newaK (atype := .long) (N := z.toNat) C.1 C.2.1 (C.2.2.2.2.1 _ (lw_in hc rfl)) rfl hd rfl (fun h => (z_vp (n := 100001) hz z0 (by omega)) (Or.inl h)) (z_clamp hz z0) (by show z.toNat * 8 ≤ _; omega) (by omega) (by omega) rfl fun H1 cA e1 s1 o1 hAr hNm => ?_
  have hcA : cA = G.2.2.1 := Option.some.inj (hNm.symm.trans (hK.2 1 _ rfl).2)
  subst hcA
  have hS : va_S (fun q => b ≤ q) s.heap H1 locs := ⟨Nat.le_trans h3.1 (by omega), fun q g1 g2 => (o1 q (Nat.lt_of_lt_of_le g1 h3.1)).trans (h3.2.1 q g1 g2), h3.2.2⟩
  have hR := zR_new (k0 := 10) (n0 := z.toNat) h2 s1 o1 (by
    rw [zE_l, ← h2.1]
    exact e1)
  have := K _ _ _ _ _ _ _ _ _ _ _ _ _ _ _ _ _ C (zSh_aD h1) hR hS h4
  rw [h2.1]
  exact this
theorem Z_newQ {z : Int} {index : Nat} (hd : decode M.2.1 pc = .ok (.anewarray index, 3)) (hp : pc + 3 = pc') (z0 : 0 ≤ z) (z1 : z ≤ 100000) (hk : k + 1 ≤ mc) (hn : n + z.toNat ≤ ms) (hl : Cond.classLink M.1.cls index RX5 ∈ lw_tbl) (K : Z S X M d mc ms Q pc' lo (.ref (gD μ).length :: st) (aD μ 11 z.toNat) (k + 1) (n + z.toNat)) : Z S X M d mc ms Q pc lo (vi z :: st) μ k n := by
  subst hp
  intro p l e R s m args below meth c b bs G QF H locs ls C h1 h2 h3 h4
  have hz : zIn z := ⟨by omega, by omega⟩
  have hK := C.2.2.2.2.2.1.1
  have hrm := C.2.2.2.2.2.2.2.2.1
  refine W.anew (n := Int32.ofInt z) C.1 C.2.1 C.2.2.2.1 (C.2.2.2.2.1 _ (lw_in hl rfl)) (va_AO.use C.2.2.2.2.2.1.2.2) rfl hd rfl (fun h => (z_vp (n := 100001) hz z0 (by omega)) (Or.inl h)) (by rw [z_clamp hz z0]; omega) (by omega) (by rw [z_clamp hz z0]; omega) fun cA kA comp f1 f2 f3 f4 => ?_
  rw [z_clamp hz z0]
  obtain ⟨kA', comp', k1, k2, k3, k4⟩ := (hK.2 2 _ rfl).2
  have hcA : cA = G.2.2.2 := Option.some.inj (f1.symm.trans k4)
  subst hcA
  generalize hH1 : H.push ({ cls := G.2.2.2, slots := Array.replicate z.toNat .null, vm := .none } : Cell) = H1
  have s1 : H1.size = H.size + 1 := by rw [← hH1, Array.size_push]
  have e1 : H1[H.size]? = some (arrV G.2.2.2 z.toNat (fun _ => .null)) := by rw [← hH1, Array.getElem?_push_size, ← arrV_new]
  have o1 : ∀ q : Nat, q < H.size → H1[q]? = H[q]? := fun q hq => by rw [← hH1, Array.getElem?_push, if_neg (Nat.ne_of_lt hq)]
  have hS : va_S (fun q => b ≤ q) s.heap H1 locs := ⟨Nat.le_trans h3.1 (by omega), fun q g1 g2 => (o1 q (Nat.lt_of_lt_of_le g1 h3.1)).trans (h3.2.1 q g1 g2), h3.2.2⟩
  have hR := zR_new (k0 := 11) (n0 := z.toNat) h2 s1 o1 (by
    rw [zE_q, ← h2.1]
    exact e1)
  have := K _ _ _ _ _ _ _ _ _ _ _ _ _ _ _ _ _ C (zSh_aD h1) hR hS h4
  rw [h2.1]
  exact this
theorem zFs_new {b c j : Nat} (h : c < 9) (hj : j < zN c) (hty : ∀ j, j < zN c → zty c j = .int ∨ zty c j = .boolean ∨ zty c j = .long ∨ zRty (zty c j) = true) : defaultValue (zty c j) = vp_V (zFs b c (fun _ => 0) (fun _ => 0) (fun _ => none)) j := by
  have e : vp_V (zFs b c (fun _ => 0) (fun _ => 0) (fun _ => none)) j = zFv b (zty c j) (fun _ => 0) (fun _ => 0) (fun _ => none) j := by
    simp [vp_V, zFs_at hj]
  rw [e]
  rcases hty j hj with h | h | h | h
  · rw [h]; rfl
  · rw [h]; rfl
  · rw [h]; rfl
  · rw [zFv_ref h]
    revert h
    cases zty c j <;> intro h <;> first | (simp [zRty] at h; done) | rfl
theorem z_kinds : ∀ c, c < 9 → ∀ j, j < zN c → zty c j = .int ∨ zty c j = .boolean ∨ zty c j = .long ∨ zRty (zty c j) = true := z9 (by decide +kernel) (by decide +kernel) (by decide +kernel) (by decide +kernel) (by decide +kernel) (by decide +kernel) (by decide +kernel) (by decide +kernel) (by decide +kernel)
theorem Z_new {c0 index : Nat} (hd : decode M.2.1 pc = .ok (.new index, 3)) (hp : pc + 3 = pc') (h9 : c0 < 9) (hk : k + 1 ≤ mc) (hn : n + zN c0 ≤ ms) (hl : Cond.classLink M.1.cls index (zRn c0) ∈ lw_tbl) (hi : Cond.instantiable (zRn c0) (zN c0) ∈ lw_tbl) (hn' : Cond.initialized (zRn c0) ∈ lw_tbl) (K : Z S X M d mc ms Q pc' lo (.ref (gD μ).length :: st) (aD μ c0 0) (k + 1) (n + zN c0)) : Z S X M d mc ms Q pc lo st μ k n := by
  subst hp
  intro p l e R s m args below meth c b bs G QF H locs ls C h1 h2 h3 h4
  have hK := C.2.2.2.2.2.1.1
  have hrm := C.2.2.2.2.2.2.2.2.1
  have hKn := hK.1 c0 _ (z_cl c0 h9)
  refine W.newcK C.1 C.2.1 C.2.2.2.1 (C.2.2.2.2.1 _ (lw_in hl rfl)) (C.2.2.2.2.1 _ (lw_in hi rfl)) (C.2.2.2.2.1 _ (lw_in hn' rfl)) rfl hd (by omega) (by omega) hKn.2.1 rfl fun H1 kC hkC e1 s1 o1 => ?_
  have hS : va_S (fun q => b ≤ q) s.heap H1 locs := ⟨Nat.le_trans h3.1 (by omega), fun q g1 g2 => (o1 q (Nat.lt_of_lt_of_le g1 h3.1)).trans (h3.2.1 q g1 g2), h3.2.2⟩
  have hR := zR_new (k0 := c0) (n0 := 0) h2 s1 o1 (by
    rw [zE_obj h9, ← h2.1]
    exact ⟨_, z_cl c0 h9, (u_born (zty c0) C.2.2.2.2.1 (z_in c0 h9) hKn hkC e1 (z_ty c0 h9)).to (fun j hj => zFs_new h9 hj (z_kinds c0 h9))⟩)
  have := K _ _ _ _ _ _ _ _ _ _ _ _ _ _ _ _ _ C (zSh_aD h1) hR hS h4
  rw [h2.1]
  exact this
end ZHeap
end
section
/-! calls -/
theorem zNw.same {u U : State} (h : u.vm = U.vm) (hZ : zNw u) : zNw U := ⟨fun w hw => va_Nw.same (by revert w; decide +kernel) h (hZ.1 w hw), va_AO.moved (by rw [h]; exact Vm.Alike.refl U.vm) hZ.2⟩
theorem zNw.warm {s U : State} (hW : s.WarmedH U.vm) (hZ : zNw s) : zNw U := by
  refine ⟨fun w hw => ?_, va_AO.moved hW.alike hZ.2⟩
  have h1 := hZ.1 w hw
  simp only [lw_n, List.mem_cons, List.not_mem_nil, or_false] at hw
  rcases hw with rfl | rfl | rfl | rfl | rfl | rfl | rfl <;> exact va_Nw.warmM hW h1
theorem zK.warm {G : zG} {s U : State} (hW : s.WarmedH U.vm) (h : zK G s) : zK G U := ⟨va_K.moved hW.alike h.1, h.2.warm hW⟩
theorem zK.calling {G : zG} {U : State} (g : JFrame) (mk : MethodId) (a : Array Value) (h : zK G U) : zK G (U.calling g mk a) := ⟨va_K.moved (u := U) (U := U.calling g mk a) (Vm.Alike.refl U.vm) h.1, zNw.same (u := U) (U := U.calling g mk a) rfl h.2⟩
/-- what a caller needs of a method -/
def zVi (M' : zMt) (c0 na : Nat) : Prop := c0 < 9 ∧ M'.1.cls = zRn c0 ∧ M'.2.2.1 ≤ 45 ∧ Cond.instanceMethod M'.1 ∈ lw_tbl ∧ Cond.selects M'.1.cls M'.1 M'.1 ∈ lw_tbl ∧ Cond.initialized M'.1.cls ∈ lw_tbl ∧ Cond.code M'.1 M'.2.1 M'.2.2.1 M'.2.2.2 ∈ lw_tbl ∧
  (M'.1.cls ≠ "java/lang/invoke/MethodHandle" ∧ M'.1.cls ≠ "java/lang/invoke/VarHandle" ∧ (parseMethodDescriptor M'.1.desc).map (fun d => d.parameters.length) = some na)
def zSt (M' : zMt) (na : Nat) : Prop := M'.2.2.1 ≤ 45 ∧ Cond.static M'.1 ∈ lw_tbl ∧ Cond.initialized M'.1.cls ∈ lw_tbl ∧ Cond.code M'.1 M'.2.1 M'.2.2.1 M'.2.2.2 ∈ lw_tbl ∧
  (M'.1.cls ≠ "java/lang/invoke/MethodHandle" ∧ M'.1.cls ≠ "java/lang/invoke/VarHandle" ∧ (parseMethodDescriptor M'.1.desc).map (fun d => d.parameters.length) = some na)
def zIi (M' : zMt) (na : Nat) : Prop := M'.1.name = "<init>" ∧ M'.2.2.2 = none ∧ M'.2.2.1 ≤ 45 ∧ Cond.instanceMethod M'.1 ∈ lw_tbl ∧ Cond.initialized M'.1.cls ∈ lw_tbl ∧ Cond.code M'.1 M'.2.1 M'.2.2.1 M'.2.2.2 ∈ lw_tbl ∧
  (M'.1.cls ≠ "java/lang/invoke/MethodHandle" ∧ M'.1.cls ≠ "java/lang/invoke/VarHandle" ∧ (parseMethodDescriptor M'.1.desc).map (fun d => d.parameters.length) = some na)
section ZCalls
variable {S : zS} {X : zX} {M : zMt} {d mc ms : Nat} {Q : Option Value → zMem → Prop} {pc pc' tgt : Nat} {lo lo' : List (Option Value)} {st st0 : List Value} {μ : zMem} {k n : Nat}
/-- behind a call -/
theorem z_after {p : Program} {l : Launch} {e : Env} {R : Room} {s : State} {m : MethodId} {args : Array Value} {below : List Frame} {meth : Method} {c : Code} {b bs : Nat} {G : zG} {QF : State → Prop} {H : Heap} {locs : List Loc} {ls : Array Slot} {mc' ms' : Nat} {st1 : List Value}
    (hrun : va_Run p l e R s m args below meth c H locs k n mc' ms' (F0 m pc ls st1) (st.map (zt b bs)) (fun s0 o t => (∃ (v : Option Value) (μ' : zMem), o = .returned (v.map (zt b bs)) ∧ Z S X M (d + 1) mc ms Q (pc + 3) lo (v.toList ++ st) μ' (k + mc') (n + ms') ∧ zSh S μ' ∧ zR G b μ' t.heap) ∧ va_F (fun q => b ≤ q) s0 t) (fun q => b ≤ q))
    (C : zCx S X M (d + 1) mc ms Q p l e R s m args below meth c b bs G QF) (h3 : va_S (fun q => b ≤ q) s.heap H locs) (h4 : zL b bs ls M.2.2.1 lo) : W p l e R s m args below meth c H locs k n QF (F0 m pc ls st1) := by
  intro T hT XS
  obtain ⟨v, st₀, t, T', L, g0, X', hL, e1, e2, ⟨⟨v', μ', hv, hZ, hsh, hR⟩, hz, hk⟩, stp⟩ := hrun T hT XS
  have hv : v = v'.map (zt b bs) := by injection hv
  subst hv
  rw [g0] at hz hk
  have hS : va_S (fun q => b ≤ q) s.heap T'.heap (locs ++ L) := ⟨Nat.le_trans h3.1 (by rw [e1]; exact hz), fun q q1 q2 => by rw [e1, hk q (Nat.lt_of_lt_of_le q1 h3.1) q2]; exact h3.2.1 q q1 q2, fun q hq => by
      rcases List.mem_append.mp hq with h | h
      · exact h3.2.2 q h
      · exact hL q h⟩
  obtain ⟨t2, a1, b1⟩ := hZ _ _ _ _ _ _ _ _ _ _ _ _ _ _ T'.heap (locs ++ L) ls C hsh (by rw [e1]; exact hR) hS h4 T' rfl X'
  refine ⟨t2, stp t2 ?_, b1⟩
  have e3 : (v'.map (zt b bs)).toList ++ st.map (zt b bs) = (v'.toList ++ st).map (zt b bs) := by cases v' <;> simp
  rw [e3]
  exact a1
theorem z_cat (b bs : Nat) (st : List Value) : ((st.map (zt b bs)).map fun v => v.category).sum = (st.map fun v => v.category).sum := by
  rw [List.map_map]
  congr 1
  apply List.map_congr_left
  intro v _
  exact zt_cat b bs v
theorem z_blind {S : zS} {G : zG} {b : Nat} {μ : zMem} {av : List Value} : FrameBlind (va_Pc av (fun U => zR G b μ U.heap ∧ zK G U ∧ zSh S μ)) := fun a U g mk q => ⟨q.1, q.2.1, q.2.2.1.calling g mk a, q.2.2.2⟩
theorem z_mem {y : Cond} (h : y ∈ lw_tbl) (g : goodWord y = true) : ∀ w ∈ y :: lw_g, w ∈ lw_g := fun w hw => (List.mem_cons.mp hw).elim (fun e => by rw [e]; exact lw_in h g) id
theorem Z_callV {M' : zMt} {idx mc' ms' p0 c0 n0 : Nat} (as : List Value) (hd : decode M.2.1 pc = .ok (.invokevirtual idx, 3)) (hp : pc + 3 = pc') (hv : zVi M' c0 as.length) (hl : Cond.methodLink M.1.cls idx M'.1 ∈ lw_tbl) (hh : zH S μ p0 c0 n0) (hs : st0 = as.reverse ++ .ref p0 :: st) (hc : (st.map fun v => v.category).sum ≤ 8) (hk : k + mc' ≤ mc) (hn : n + ms' ≤ ms)
    (K : Cl S M' d mc' ms' (.ref p0 :: as) μ (fun v μ' => Z S X M (d + 1) mc ms Q pc' lo (v.toList ++ st) μ' (k + mc') (n + ms'))) : Z S X M (d + 1) mc ms Q pc lo st0 μ k n := by
  subst hp; subst hs
  intro p l e R s m args below meth c b bs G QF H locs ls C h1 h2 h3 h4
  obtain ⟨v1, v2, v3, v4, v5, v6, v7, v8⟩ := hv
  have hat := h2.2 p0 c0 n0 (hh.at h1)
  rw [zE_obj v1] at hat
  have hrm := C.2.2.2.2.2.2.2.2.1
  have hts := C.2.2.2.2.1
  have hgood : GoodIn lw_g (wsV M.1.cls idx M'.1.cls M'.1 (.code M'.1 M'.2.1 M'.2.2.1 M'.2.2.2 :: lw_g)) := z_goodIn (fun w hw => by
    unfold wsV at hw
    rcases List.mem_append.mp hw with h | h
    · simp only [List.mem_cons, List.not_mem_nil, or_false] at h
      rcases h with rfl | rfl | rfl | rfl
      · exact lw_in hl rfl
      · exact lw_in v4 rfl
      · exact lw_in v5 rfl
      · exact lw_in v6 rfl
    · exact z_mem v7 rfl w h)
  have cw : CallW R s args M.1.cls M'.1.cls idx M'.1 M'.2.1 M'.2.2.1 M'.2.2.2 (.code M'.1 M'.2.1 M'.2.2.1 M'.2.2.2 :: lw_g) (zroom d mc' ms') mc' ms' as.length := cwV as.length hts hgood rfl rfl rfl ⟨rfl, v8⟩ ⟨by show d + 1 ≤ _; omega, by show 8 + (_ + 11) + 64 * d ≤ _; omega⟩
  refine z_after (st1 := List.map (zt b bs) (as.reverse ++ .ref p0 :: st)) (va_runV (g := F0 m pc ls (List.map (zt b bs) (as.reverse ++ .ref p0 :: st))) (b := b + p0) (As := as.map (zt b bs)) (rest := st.map (zt b bs)) ⟨C.1, C.2.1, C.2.2.1, C.2.2.2.1, hts⟩ (K l b bs G) cw ⟨z_blind, ?_, fun U hU hW => ⟨rfl, by rw [hU]; exact h2, C.2.2.2.2.2.1.warm hW, h1⟩⟩ rfl (by simp) h4.1 (by simp [zt]) (lv_room (by rw [z_cat]; exact hc)) hd ⟨by omega, by omega⟩) C h3 h4
  rw [v2]
  exact va_recv C.2.2.2.2.2.1.1 (va_one hat) (z_cl c0 v1) (q0 := 0) rfl
theorem Z_callS {M' : zMt} {idx mc' ms' : Nat} (as : List Value) (hd : decode M.2.1 pc = .ok (.invokestatic idx, 3)) (hp : pc + 3 = pc') (hv : zSt M' as.length) (hl : Cond.methodLink M.1.cls idx M'.1 ∈ lw_tbl) (hs : st0 = as.reverse ++ st) (hc : (st.map fun v => v.category).sum ≤ 8) (hk : k + mc' ≤ mc) (hn : n + ms' ≤ ms)
    (K : Cl S M' d mc' ms' as μ (fun v μ' => Z S X M (d + 1) mc ms Q pc' lo (v.toList ++ st) μ' (k + mc') (n + ms'))) : Z S X M (d + 1) mc ms Q pc lo st0 μ k n := by
  subst hp; subst hs
  intro p l e R s m args below meth c b bs G QF H locs ls C h1 h2 h3 h4
  obtain ⟨v3, v4, v6, v7, v8⟩ := hv
  have hrm := C.2.2.2.2.2.2.2.2.1
  have hts := C.2.2.2.2.1
  have cw : CallB R s args M.1.cls idx M'.1 M'.2.1 M'.2.2.1 M'.2.2.2 (.code M'.1 M'.2.1 M'.2.2.1 M'.2.2.2 :: lw_g) (zroom d mc' ms') mc' ms' as.length := callB_of as.length hts (z_goodIn (z_mem v7 rfl)) rfl rfl rfl (hts _ (lw_in v6 rfl)) (hts _ (lw_in hl rfl)) v8 ⟨by show d + 1 ≤ _; omega, by show 8 + (_ + 11) + 64 * d ≤ _; omega⟩
  exact z_after (st1 := List.map (zt b bs) (as.reverse ++ st)) (va_runS (g := F0 m pc ls (List.map (zt b bs) (as.reverse ++ st))) (As := as.map (zt b bs)) (rest := st.map (zt b bs)) ⟨C.1, C.2.1, C.2.2.1, C.2.2.2.1, hts⟩ (K l b bs G) ⟨cw, hts _ (lw_in v4 rfl)⟩ ⟨z_blind, fun U hU hW => ⟨rfl, by rw [hU]; exact h2, C.2.2.2.2.2.1.warm hW, h1⟩⟩ rfl (by simp) h4.1 (by simp) (lv_room (by rw [z_cat]; exact hc)) hd ⟨by omega, by omega⟩) C h3 h4
theorem Z_callSN {M' : zMt} {idx mc' ms' : Nat} {host : String} (as : List Value) (hd : decode M.2.1 pc = .ok (.invokestatic idx, 3)) (hp : pc + 3 = pc') (hv : zSt M' as.length) (hl : Cond.methodLinkNest M.1.cls idx M'.1 host ∈ lw_n) (hs : st0 = as.reverse ++ st) (hc : (st.map fun v => v.category).sum ≤ 8) (hk : k + mc' ≤ mc) (hn : n + ms' ≤ ms)
    (K : Cl S M' d mc' ms' as μ (fun v μ' => Z S X M (d + 1) mc ms Q pc' lo (v.toList ++ st) μ' (k + mc') (n + ms'))) : Z S X M (d + 1) mc ms Q pc lo st0 μ k n := by
  subst hp; subst hs
  intro p l e R s m args below meth c b bs G QF H locs ls C h1 h2 h3 h4
  obtain ⟨v3, v4, v6, v7, v8⟩ := hv
  have hrm := C.2.2.2.2.2.2.2.2.1
  have hts := C.2.2.2.2.1
  have cw : va_CN R s args M.1.cls idx M'.1 host M'.2.1 M'.2.2.1 M'.2.2.2 (.code M'.1 M'.2.1 M'.2.2.1 M'.2.2.2 :: lw_g) (zroom d mc' ms') mc' ms' as.length := va_cnB as.length hts (z_goodIn (z_mem v7 rfl)) rfl rfl rfl (C.2.2.2.2.2.1.2.1 _ hl) (hts _ (lw_in v6 rfl)) v8 ⟨by show d + 1 ≤ _; omega, by show 8 + (_ + 11) + 64 * d ≤ _; omega⟩
  exact z_after (st1 := List.map (zt b bs) (as.reverse ++ st)) (va_runSN (g := F0 m pc ls (List.map (zt b bs) (as.reverse ++ st))) (As := as.map (zt b bs)) (rest := st.map (zt b bs)) ⟨C.1, C.2.1, C.2.2.1, C.2.2.2.1, hts⟩ (K l b bs G) ⟨cw, hts _ (lw_in v4 rfl), trivial⟩ ⟨z_blind, fun U hU hW => ⟨rfl, by rw [hU]; exact h2, C.2.2.2.2.2.1.warm hW, h1⟩⟩ rfl (by simp) h4.1 (by simp) (lv_room (by rw [z_cat]; exact hc)) hd ⟨by omega, by omega⟩) C h3 h4
theorem Z_callI {M' : zMt} {idx mc' ms' p0 : Nat} (as : List Value) (hd : decode M.2.1 pc = .ok (.invokespecial idx, 3)) (hp : pc + 3 = pc') (hv : zIi M' as.length) (hl : Cond.methodLink M.1.cls idx M'.1 ∈ lw_tbl) (hs : st0 = as.reverse ++ .ref p0 :: st) (hc : (st.map fun v => v.category).sum ≤ 8) (hk : k + mc' ≤ mc) (hn : n + ms' ≤ ms)
    (K : Cl S M' d mc' ms' (.ref p0 :: as) μ (fun v μ' => Z S X M (d + 1) mc ms Q pc' lo (v.toList ++ st) μ' (k + mc') (n + ms'))) : Z S X M (d + 1) mc ms Q pc lo st0 μ k n := by
  subst hp; subst hs
  intro p l e R s m args below meth c b bs G QF H locs ls C h1 h2 h3 h4
  obtain ⟨v0, v1, v3, v4, v6, v7, v8⟩ := hv
  have hrm := C.2.2.2.2.2.2.2.2.1
  have hts := C.2.2.2.2.1
  have KK := K l b bs G
  rw [v1] at KK v7
  have cw : CallB R s args M.1.cls idx M'.1 M'.2.1 M'.2.2.1 none (.code M'.1 M'.2.1 M'.2.2.1 none :: lw_g) (zroom d mc' ms') mc' ms' as.length := callB_of as.length hts (z_goodIn (z_mem v7 rfl)) rfl rfl rfl (hts _ (lw_in v6 rfl)) (hts _ (lw_in hl rfl)) v8 ⟨by show d + 1 ≤ _; omega, by show 8 + (_ + 11) + 64 * d ≤ _; omega⟩
  exact z_after (st1 := List.map (zt b bs) (as.reverse ++ .ref p0 :: st)) (va_runI (g := F0 m pc ls (List.map (zt b bs) (as.reverse ++ .ref p0 :: st))) (b := b + p0) (As := as.map (zt b bs)) (rest := st.map (zt b bs)) ⟨C.1, C.2.1, C.2.2.1, C.2.2.2.1, hts⟩ KK ⟨cw, v0, hts _ (lw_in v4 rfl)⟩ ⟨z_blind, fun U hU hW => ⟨rfl, by rw [hU]; exact h2, C.2.2.2.2.2.1.warm hW, h1⟩⟩ rfl (by simp) h4.1 (by simp [zt]) (lv_room (by rw [z_cat]; exact hc)) hd ⟨by omega, by omega⟩) C h3 h4
theorem Z_callIN {M' : zMt} {idx mc' ms' p0 : Nat} {host : String} (as : List Value) (hd : decode M.2.1 pc = .ok (.invokespecial idx, 3)) (hp : pc + 3 = pc') (hv : zIi M' as.length) (hl : Cond.methodLinkNest M.1.cls idx M'.1 host ∈ lw_n) (hs : st0 = as.reverse ++ .ref p0 :: st) (hc : (st.map fun v => v.category).sum ≤ 8) (hk : k + mc' ≤ mc) (hn : n + ms' ≤ ms)
    (K : Cl S M' d mc' ms' (.ref p0 :: as) μ (fun v μ' => Z S X M (d + 1) mc ms Q pc' lo (v.toList ++ st) μ' (k + mc') (n + ms'))) : Z S X M (d + 1) mc ms Q pc lo st0 μ k n := by
  subst hp; subst hs
  intro p l e R s m args below meth c b bs G QF H locs ls C h1 h2 h3 h4
  obtain ⟨v0, v1, v3, v4, v6, v7, v8⟩ := hv
  have hrm := C.2.2.2.2.2.2.2.2.1
  have hts := C.2.2.2.2.1
  have KK := K l b bs G
  rw [v1] at KK v7
  have cw : va_CN R s args M.1.cls idx M'.1 host M'.2.1 M'.2.2.1 none (.code M'.1 M'.2.1 M'.2.2.1 none :: lw_g) (zroom d mc' ms') mc' ms' as.length := va_cnB as.length hts (z_goodIn (z_mem v7 rfl)) rfl rfl rfl (C.2.2.2.2.2.1.2.1 _ hl) (hts _ (lw_in v6 rfl)) v8 ⟨by show d + 1 ≤ _; omega, by show 8 + (_ + 11) + 64 * d ≤ _; omega⟩
  exact z_after (st1 := List.map (zt b bs) (as.reverse ++ .ref p0 :: st)) (va_runIN (g := F0 m pc ls (List.map (zt b bs) (as.reverse ++ .ref p0 :: st))) (b := b + p0) (As := as.map (zt b bs)) (rest := st.map (zt b bs)) ⟨C.1, C.2.1, C.2.2.1, C.2.2.2.1, hts⟩ KK ⟨cw, v0, hts _ (lw_in v4 rfl)⟩ ⟨z_blind, fun U hU hW => ⟨rfl, by rw [hU]; exact h2, C.2.2.2.2.2.1.warm hW, h1⟩⟩ rfl (by simp) h4.1 (by simp [zt]) (lv_room (by rw [z_cat]; exact hc)) hd ⟨by omega, by omega⟩) C h3 h4
/-! the JDK's own -/
theorem Z_objInit {idx p0 : Nat} (hd : decode M.2.1 pc = .ok (.invokespecial idx, 3)) (hp : pc + 3 = pc') (hl : Cond.methodLink M.1.cls idx objectInit ∈ lw_tbl) (hi : Cond.instanceMethod objectInit ∈ lw_tbl) (hcd : Cond.code objectInit ⟨#[0xb1]⟩ 1 none ∈ lw_tbl) (hc : (st.map fun v => v.category).sum ≤ 8) (K : Z S X M (d + 1) mc ms Q pc' lo st μ k n) : Z S X M (d + 1) mc ms Q pc lo (.ref p0 :: st) μ k n := by
  subst hp
  intro p l e R s m args below meth c b bs G QF H locs ls C h1 h2 h3 h4
  have hrm := C.2.2.2.2.2.2.2.2.1
  have hts := C.2.2.2.2.1
  refine W.objInit C.1 C.2.1 C.2.2.2.1 (hts _ (lw_in hl rfl)) (hts _ (lw_in hi rfl)) (hts _ (lw_in hcd rfl)) rfl (by rw [C.2.2.1]; exact h4.1) rfl hd (by omega) ?_ (K _ _ _ _ _ _ _ _ _ _ _ _ _ _ _ _ _ C h1 h2 h3 h4)
  rw [z_cat]
  show 2 * 0 + _ + 12 ≤ _
  omega
def zMath (x : MethodName) (cc : ByteArray) (n : Nat) (own : String) (idx : Nat) : Prop := Cond.methodLink own idx x ∈ lw_tbl ∧ Cond.static x ∈ lw_tbl ∧ Cond.initialized "java/lang/Math" ∈ lw_tbl ∧ Cond.code x cc n (some .int) ∈ lw_tbl
theorem Z_max {idx : Nat} {a b : Int} (hd : decode M.2.1 pc = .ok (.invokestatic idx, 3)) (hp : pc + 3 = pc') (hl : zMath Lib.Math.max.name Lib.Math.max.code 2 M.1.cls idx) (ha : zIn a) (hb : zIn b) (hk : k ≤ mc) (hn : n ≤ ms) (hc : (st.map fun v => v.category).sum ≤ 8) (K : Z S X M (d + 1) mc ms Q pc' lo (vi (if a < b then b else a) :: st) μ k n) : Z S X M (d + 1) mc ms Q pc lo (vi b :: vi a :: st) μ k n := by
  subst hp
  intro p l e R s m args below meth c b' bs G QF H locs ls C h1 h2 h3 h4
  have hrm := C.2.2.2.2.2.2.2.2.1
  have hts := C.2.2.2.2.1
  refine va_mmax (x := Int32.ofInt a) (y := Int32.ofInt b) C.1 C.2.1 (by rw [C.2.2.1]; exact h4.1.symm) C.2.2.2.1 (hts _ (lw_in hl.1 rfl)) (hts _ (lw_in hl.2.1 rfl)) (hts _ (lw_in hl.2.2.1 rfl)) (hts _ (lw_in hl.2.2.2 rfl)) (by omega) (by rw [z_cat]; omega) (by omega) (by omega) hd ?_
  have e1 : (if Int32.ofInt a < Int32.ofInt b then Int32.ofInt b else Int32.ofInt a) = Int32.ofInt (if a < b then b else a) := by
    by_cases h : a < b
    · rw [if_pos h, if_pos ((z_lt ha hb).mpr h)]
    · rw [if_neg h, if_neg (fun q => h ((z_lt ha hb).mp q))]
  rw [e1]
  exact K _ _ _ _ _ _ _ _ _ _ _ _ _ _ _ _ _ C h1 h2 h3 h4
theorem Z_min {idx : Nat} {a b : Int} (hd : decode M.2.1 pc = .ok (.invokestatic idx, 3)) (hp : pc + 3 = pc') (hl : zMath Lib.Math.min.name Lib.Math.min.code 2 M.1.cls idx) (ha : zIn a) (hb : zIn b) (hk : k ≤ mc) (hn : n ≤ ms) (hc : (st.map fun v => v.category).sum ≤ 8) (K : Z S X M (d + 1) mc ms Q pc' lo (vi (if b < a then b else a) :: st) μ k n) : Z S X M (d + 1) mc ms Q pc lo (vi b :: vi a :: st) μ k n := by
  subst hp
  intro p l e R s m args below meth c b' bs G QF H locs ls C h1 h2 h3 h4
  have hrm := C.2.2.2.2.2.2.2.2.1
  have hts := C.2.2.2.2.1
  refine va_mmin (x := Int32.ofInt a) (y := Int32.ofInt b) C.1 C.2.1 (by rw [C.2.2.1]; exact h4.1.symm) C.2.2.2.1 (hts _ (lw_in hl.1 rfl)) (hts _ (lw_in hl.2.1 rfl)) (hts _ (lw_in hl.2.2.1 rfl)) (hts _ (lw_in hl.2.2.2 rfl)) (by omega) (by rw [z_cat]; omega) (by omega) (by omega) hd ?_
  have e1 : (if Int32.ofInt b < Int32.ofInt a then Int32.ofInt b else Int32.ofInt a) = Int32.ofInt (if b < a then b else a) := by
    by_cases h : b < a
    · rw [if_pos h, if_pos ((z_lt hb ha).mpr h)]
    · rw [if_neg h, if_neg (fun q => h ((z_lt hb ha).mp q))]
  rw [e1]
  exact K _ _ _ _ _ _ _ _ _ _ _ _ _ _ _ _ _ C h1 h2 h3 h4
theorem Z_abs {idx : Nat} {a : Int} (hd : decode M.2.1 pc = .ok (.invokestatic idx, 3)) (hp : pc + 3 = pc') (hl : zMath Lib.Math.abs.name Lib.Math.abs.code 1 M.1.cls idx) (ha : zIn a) (hk : k ≤ mc) (hn : n ≤ ms) (hc : (st.map fun v => v.category).sum ≤ 8) (K : Z S X M (d + 1) mc ms Q pc' lo (vi (if 0 ≤ a then a else -a) :: st) μ k n) : Z S X M (d + 1) mc ms Q pc lo (vi a :: st) μ k n := by
  subst hp
  intro p l e R s m args below meth c b' bs G QF H locs ls C h1 h2 h3 h4
  have hrm := C.2.2.2.2.2.2.2.2.1
  have hts := C.2.2.2.2.1
  refine va_mabs (x := Int32.ofInt a) C.1 C.2.1 (by rw [C.2.2.1]; exact h4.1.symm) C.2.2.2.1 (hts _ (lw_in hl.1 rfl)) (hts _ (lw_in hl.2.1 rfl)) (hts _ (lw_in hl.2.2.1 rfl)) (hts _ (lw_in hl.2.2.2 rfl)) (by omega) (by rw [z_cat]; omega) (by omega) (by omega) hd ?_
  have e1 : (if 0 ≤ Int32.ofInt a then Int32.ofInt a else 0 - Int32.ofInt a) = Int32.ofInt (if 0 ≤ a then a else -a) := by
    by_cases h : 0 ≤ a
    · rw [if_pos h]
      exact if_pos ((z_le z_in0 ha).mpr h)
    · rw [if_neg h]
      refine (if_neg (fun q => h ((z_le z_in0 ha).mp q))).trans ?_
      rw [← Int.zero_sub, Int32.ofInt_sub]
      rfl
  rw [e1]
  exact K _ _ _ _ _ _ _ _ _ _ _ _ _ _ _ _ _ C h1 h2 h3 h4
theorem z_nfw : nativeFrameWords "java/lang/System" "arraycopy" 5 ≤ 20 := by decide +kernel
def zAc (own : String) (idx : Nat) : Prop := Cond.methodLink own idx arraycopyName ∈ lw_tbl ∧ Cond.native arraycopyName ∈ lw_tbl ∧ Cond.static arraycopyName ∈ lw_tbl ∧ Cond.initialized "java/lang/System" ∈ lw_tbl
theorem z_nneg {z : Int} (h : zIn z) (h0 : 0 ≤ z) : ¬ Int32.ofInt z < 0 := fun q => by
  have := (z_lt h z_in0).mp q
  omega
theorem Z_copyL {idx p0 n0 q0 m0 : Nat} {i j z : Int} (hd : decode M.2.1 pc = .ok (.invokestatic idx, 3)) (hp : pc + 3 = pc') (hl : zAc M.1.cls idx) (hh : zH S μ p0 10 n0) (hq : zH S μ q0 10 m0) (hn1 : n0 ≤ 2147483647) (hn2 : m0 ≤ 2147483647) (i0 : 0 ≤ i) (j0 : 0 ≤ j) (z0 : 0 ≤ z) (i1 : i + z ≤ n0) (j1 : j + z ≤ m0) (hc : (st.map fun v => v.category).sum ≤ 8) (K : Z S X M (d + 1) mc ms Q pc' lo st (cL μ p0 i q0 j z) k n) : Z S X M (d + 1) mc ms Q pc lo (vi z :: vi j :: .ref q0 :: vi i :: .ref p0 :: st) μ k n := by
  subst hp
  intro p l e R s m args below meth c b bs G QF H locs ls C h1 h2 h3 h4
  have hrm := C.2.2.2.2.2.2.2.2.1
  have hts := C.2.2.2.2.1
  have hK := C.2.2.2.2.2.1.1
  have hzi : zIn i := ⟨by omega, by omega⟩
  have hzj : zIn j := ⟨by omega, by omega⟩
  have hzz : zIn z := ⟨by omega, by omega⟩
  have a0 := hh.at h1
  have a1 := hq.at h1
  have hat0 := h2.2 p0 10 n0 a0
  have hat1 := h2.2 q0 10 m0 a1
  rw [zE_l] at hat0 hat1
  have hc0 : H[b + p0]? = some (arrV G.2.2.1 n0 (fun x => Value.long (gL μ p0 x))) := hat0
  have hc1 : H[b + q0]? = some (arrV G.2.2.1 m0 (fun x => Value.long (gL μ q0 x))) := hat1
  intro T hT XS
  obtain ⟨-, k0, hk0, cm0, hkk0⟩ := (hK.2 1 _ rfl).1 n0 (fun x => Value.long (gL μ p0 x))
  obtain ⟨-, k1, hk1, cm1, hkk1⟩ := (hK.2 1 _ rfl).1 m0 (fun x => Value.long (gL μ q0 x))
  obtain ⟨vm', X', step⟩ := XS.arraycopy C.1 C.2.2.2.1 (hts _ (lw_in hl.1 rfl)) (hts _ (lw_in hl.2.1 rfl)) (hts _ (lw_in hl.2.2.1 rfl)) (hts _ (lw_in hl.2.2.2 rfl)) (src := b + p0) (dst := b + q0) (cs := arrV G.2.2.1 n0 (fun x => Value.long (gL μ p0 x))) (cd := arrV G.2.2.1 m0 (fun x => Value.long (gL μ q0 x))) (srcPos := Int32.ofInt i) (destPos := Int32.ofInt j) (n := Int32.ofInt z) (by rw [hT]; exact hc0) (by rw [hT]; exact hc1)
    (fun _ h => by cases h) (fun _ h => by cases h) (fun h => by cases h) (fun h => by cases h) hk0 hk1 hkk0 hkk1 (by simp [refKind]) (z_nneg hzi i0) (z_nneg hzj j0) (z_nneg hzz z0)
    (by rw [z_toInt hzi, z_toInt hzz, arrV_size]; omega)
    (by rw [z_toInt hzj, z_toInt hzz, arrV_size]; omega)
    (fun vm₁ _ x hx => by
      rw [z_clamp hzz z0] at hx
      have e : (arrV G.2.2.1 n0 (fun x => Value.long (gL μ p0 x))).slots.getD ((Int32.ofInt i).toNatClampNeg + x) .null = Value.long (gL μ p0 (((Int32.ofInt i).toNatClampNeg + x : Nat) : Int)) := by
        rw [Array.getD_eq_getD_getElem?, arrV_read _ _ (by rw [z_clamp hzi i0]; omega)]
        rfl
      refine ⟨?_, ?_⟩
      · rw [e]
        rfl
      · rw [e]
        exact trivial)
    (g := F0 m pc ls (List.map (zt b bs) (vi z :: vi j :: .ref q0 :: vi i :: .ref p0 :: st))) rfl (by rw [C.2.2.1]; exact h4.1) (rest := st.map (zt b bs)) rfl (by rw [C.2.1]; exact hd) (by omega) (by rw [z_cat]; show 2 * 0 + _ + (nativeFrameWords "java/lang/System" "arraycopy" 5 + 11) ≤ _; have := z_nfw; omega)
  have e1 : copied (arrV G.2.2.1 n0 (fun x => Value.long (gL μ p0 x))) (arrV G.2.2.1 m0 (fun x => Value.long (gL μ q0 x))) (Int32.ofInt i) (Int32.ofInt j) (Int32.ofInt z) = arrV G.2.2.1 m0 (fun x => Value.long (va_cpy (fun x : Nat => gL μ p0 x) (fun x : Nat => gL μ q0 x) (Int32.ofInt i).toNatClampNeg (Int32.ofInt j).toNatClampNeg (Int32.ofInt z).toNatClampNeg x)) := va_copied (fun z => Value.long z) G.2.2.1 G.2.2.1 (fun x : Nat => gL μ p0 x) (fun x : Nat => gL μ q0 x) (by rw [z_clamp hzi i0, z_clamp hzz z0]; omega)
  rw [e1] at X' step
  generalize hnew : arrV G.2.2.1 m0 (fun x => Value.long (va_cpy (fun x : Nat => gL μ p0 x) (fun x : Nat => gL μ q0 x) (Int32.ofInt i).toNatClampNeg (Int32.ofInt j).toNatClampNeg (Int32.ofInt z).toNatClampNeg x)) = nw at X' step
  have hlt : b + q0 < H.size := (Array.getElem?_eq_some_iff.mp hc1).1
  have hheap : ((T.setVm vm').setCell (b + q0) nw).heap = H.setIfInBounds (b + q0) nw := by rw [← hT]; rfl
  have oq : ∀ q : Nat, q ≠ b + q0 → (H.setIfInBounds (b + q0) nw)[q]? = H[q]? := fun q hq => by simp [Array.getElem?_setIfInBounds, Ne.symm hq]
  have sz : (H.setIfInBounds (b + q0) nw).size = H.size := by simp
  have hR : zR G b (cL μ p0 i q0 j z) (H.setIfInBounds (b + q0) nw) := by
    refine zR_put h2 a1 sz oq rfl (fun p h => ⟨rfl, by funext x; simp [gL, cL, zf, h], rfl⟩) ?_
    rw [zE_l]
    show (H.setIfInBounds (b + q0) nw)[b + q0]? = some (arrV G.2.2.1 m0 (fun x => Value.long (gL (cL μ p0 i q0 j z) q0 x)))
    have e2 : (H.setIfInBounds (b + q0) nw)[b + q0]? = some nw := by simp [Array.getElem?_setIfInBounds, hlt]
    rw [e2, ← hnew]
    congr 2
    funext x
    congr 1
    rw [z_clamp hzi i0, z_clamp hzj j0, z_clamp hzz z0]
    show va_cpy _ _ _ _ _ _ = zf _ q0 _ q0 (x : Int)
    simp only [zf, if_pos, va_cpy]
    by_cases h : j.toNat ≤ x ∧ x < j.toNat + z.toNat
    · rw [if_pos h, if_pos (by omega)]
      show gL μ p0 _ = gL μ p0 _
      congr 1
      omega
    · rw [if_neg h, if_neg (by omega)]
      rfl
  have hS : ∀ L : List Loc, (∀ q ∈ L, b ≤ q.base) → va_S (fun q => b ≤ q) s.heap (H.setIfInBounds (b + q0) nw) (locs ++ L) := fun L hL => ⟨by rw [sz]; exact h3.1, fun q g1 g2 => by
      rw [oq q (fun e => g2 (by rw [e]; exact Nat.le_add_right b q0))]
      exact h3.2.1 q g1 g2, fun q hq => by
      rcases List.mem_append.mp hq with h | h
      · exact h3.2.2 q h
      · exact hL q h⟩
  obtain ⟨t, a1, b1⟩ := K _ _ _ _ _ _ _ _ _ _ _ _ _ _ _ _ _ C h1 hR (hS _ (fun q hq => by
    obtain ⟨x, -, hx⟩ := List.mem_map.mp hq
    rw [← hx]
    exact Nat.le_add_right b q0)) h4 _ hheap X'
  exact ⟨t, step t a1, b1⟩
def iI (μ : zMem) (p : Nat) (x : Int) : Int32 := Int32.ofInt (gI μ p x)
theorem Z_copyI {idx p0 n0 q0 m0 : Nat} {i j z : Int} (hd : decode M.2.1 pc = .ok (.invokestatic idx, 3)) (hp : pc + 3 = pc') (hl : zAc M.1.cls idx) (hh : zH S μ p0 9 n0) (hq : zH S μ q0 9 m0) (hn1 : n0 ≤ 2147483647) (hn2 : m0 ≤ 2147483647) (i0 : 0 ≤ i) (j0 : 0 ≤ j) (z0 : 0 ≤ z) (i1 : i + z ≤ n0) (j1 : j + z ≤ m0) (hc : (st.map fun v => v.category).sum ≤ 8) (K : Z S X M (d + 1) mc ms Q pc' lo st (cI μ p0 i q0 j z) k n) : Z S X M (d + 1) mc ms Q pc lo (vi z :: vi j :: .ref q0 :: vi i :: .ref p0 :: st) μ k n := by
  subst hp
  intro p l e R s m args below meth c b bs G QF H locs ls C h1 h2 h3 h4
  have hrm := C.2.2.2.2.2.2.2.2.1
  have hts := C.2.2.2.2.1
  have hK := C.2.2.2.2.2.1.1
  have hzi : zIn i := ⟨by omega, by omega⟩
  have hzj : zIn j := ⟨by omega, by omega⟩
  have hzz : zIn z := ⟨by omega, by omega⟩
  have a0 := hh.at h1
  have a1 := hq.at h1
  have hat0 := h2.2 p0 9 n0 a0
  have hat1 := h2.2 q0 9 m0 a1
  rw [zE_i] at hat0 hat1
  have hc0 : H[b + p0]? = some (arrV G.2.1 n0 (fun x => Value.int (iI μ p0 x))) := hat0
  have hc1 : H[b + q0]? = some (arrV G.2.1 m0 (fun x => Value.int (iI μ q0 x))) := hat1
  intro T hT XS
  obtain ⟨-, k0, hk0, cm0, hkk0⟩ := (hK.2 0 _ rfl).1 n0 (fun x => Value.int (iI μ p0 x))
  obtain ⟨-, k1, hk1, cm1, hkk1⟩ := (hK.2 0 _ rfl).1 m0 (fun x => Value.int (iI μ q0 x))
  obtain ⟨vm', X', step⟩ := XS.arraycopy C.1 C.2.2.2.1 (hts _ (lw_in hl.1 rfl)) (hts _ (lw_in hl.2.1 rfl)) (hts _ (lw_in hl.2.2.1 rfl)) (hts _ (lw_in hl.2.2.2 rfl)) (src := b + p0) (dst := b + q0) (cs := arrV G.2.1 n0 (fun x => Value.int (iI μ p0 x))) (cd := arrV G.2.1 m0 (fun x => Value.int (iI μ q0 x))) (srcPos := Int32.ofInt i) (destPos := Int32.ofInt j) (n := Int32.ofInt z) (by rw [hT]; exact hc0) (by rw [hT]; exact hc1)
    (fun _ h => by cases h) (fun _ h => by cases h) (fun h => by cases h) (fun h => by cases h) hk0 hk1 hkk0 hkk1 (by simp [refKind]) (z_nneg hzi i0) (z_nneg hzj j0) (z_nneg hzz z0)
    (by rw [z_toInt hzi, z_toInt hzz, arrV_size]; omega)
    (by rw [z_toInt hzj, z_toInt hzz, arrV_size]; omega)
    (fun vm₁ _ x hx => by
      rw [z_clamp hzz z0] at hx
      have e : (arrV G.2.1 n0 (fun x => Value.int (iI μ p0 x))).slots.getD ((Int32.ofInt i).toNatClampNeg + x) .null = Value.int (iI μ p0 (((Int32.ofInt i).toNatClampNeg + x : Nat) : Int)) := by
        rw [Array.getD_eq_getD_getElem?, arrV_read _ _ (by rw [z_clamp hzi i0]; omega)]
        rfl
      refine ⟨?_, ?_⟩
      · rw [e]
        rfl
      · rw [e]
        exact trivial)
    (g := F0 m pc ls (List.map (zt b bs) (vi z :: vi j :: .ref q0 :: vi i :: .ref p0 :: st))) rfl (by rw [C.2.2.1]; exact h4.1) (rest := st.map (zt b bs)) rfl (by rw [C.2.1]; exact hd) (by omega) (by rw [z_cat]; show 2 * 0 + _ + (nativeFrameWords "java/lang/System" "arraycopy" 5 + 11) ≤ _; have := z_nfw; omega)
  have e1 : copied (arrV G.2.1 n0 (fun x => Value.int (iI μ p0 x))) (arrV G.2.1 m0 (fun x => Value.int (iI μ q0 x))) (Int32.ofInt i) (Int32.ofInt j) (Int32.ofInt z) = arrV G.2.1 m0 (fun x => Value.int (va_cpy (fun x : Nat => iI μ p0 x) (fun x : Nat => iI μ q0 x) (Int32.ofInt i).toNatClampNeg (Int32.ofInt j).toNatClampNeg (Int32.ofInt z).toNatClampNeg x)) := va_copied (fun z => Value.int z) G.2.1 G.2.1 (fun x : Nat => iI μ p0 x) (fun x : Nat => iI μ q0 x) (by rw [z_clamp hzi i0, z_clamp hzz z0]; omega)
  rw [e1] at X' step
  generalize hnew : arrV G.2.1 m0 (fun x => Value.int (va_cpy (fun x : Nat => iI μ p0 x) (fun x : Nat => iI μ q0 x) (Int32.ofInt i).toNatClampNeg (Int32.ofInt j).toNatClampNeg (Int32.ofInt z).toNatClampNeg x)) = nw at X' step
  have hlt : b + q0 < H.size := (Array.getElem?_eq_some_iff.mp hc1).1
  have hheap : ((T.setVm vm').setCell (b + q0) nw).heap = H.setIfInBounds (b + q0) nw := by rw [← hT]; rfl
  have oq : ∀ q : Nat, q ≠ b + q0 → (H.setIfInBounds (b + q0) nw)[q]? = H[q]? := fun q hq => by simp [Array.getElem?_setIfInBounds, Ne.symm hq]
  have sz : (H.setIfInBounds (b + q0) nw).size = H.size := by simp
  have hR : zR G b (cI μ p0 i q0 j z) (H.setIfInBounds (b + q0) nw) := by
    refine zR_put h2 a1 sz oq rfl (fun p h => ⟨by funext x; simp [gI, cI, zf, h], rfl, rfl⟩) ?_
    rw [zE_i]
    show (H.setIfInBounds (b + q0) nw)[b + q0]? = some (arrV G.2.1 m0 (fun x => Value.int (iI (cI μ p0 i q0 j z) q0 x)))
    have e2 : (H.setIfInBounds (b + q0) nw)[b + q0]? = some nw := by simp [Array.getElem?_setIfInBounds, hlt]
    rw [e2, ← hnew]
    congr 2
    funext x
    congr 1
    rw [z_clamp hzi i0, z_clamp hzj j0, z_clamp hzz z0]
    show va_cpy _ _ _ _ _ _ = Int32.ofInt (zf _ q0 _ q0 (x : Int))
    simp only [zf, if_pos, va_cpy]
    by_cases h : j.toNat ≤ x ∧ x < j.toNat + z.toNat
    · rw [if_pos h, if_pos (by omega)]
      show iI μ p0 _ = iI μ p0 _
      congr 1
      omega
    · rw [if_neg h, if_neg (by omega)]
      rfl
  have hS : ∀ L : List Loc, (∀ q ∈ L, b ≤ q.base) → va_S (fun q => b ≤ q) s.heap (H.setIfInBounds (b + q0) nw) (locs ++ L) := fun L hL => ⟨by rw [sz]; exact h3.1, fun q g1 g2 => by
      rw [oq q (fun e => g2 (by rw [e]; exact Nat.le_add_right b q0))]
      exact h3.2.1 q g1 g2, fun q hq => by
      rcases List.mem_append.mp hq with h | h
      · exact h3.2.2 q h
      · exact hL q h⟩
  obtain ⟨t, a1, b1⟩ := K _ _ _ _ _ _ _ _ _ _ _ _ _ _ _ _ _ C h1 hR (hS _ (fun q hq => by
    obtain ⟨x, -, hx⟩ := List.mem_map.mp hq
    rw [← hx]
    exact Nat.le_add_right b q0)) h4 _ hheap X'
  exact ⟨t, step t a1, b1⟩
/-! a method from its entry -/
def zen : List Value → List (Option Value)
  | [] => []
  | v :: vs => if v.category = 2 then some v :: none :: zen vs else some v :: zen vs
theorem zen_at (b bs : Nat) : ∀ (as : List Value) (j i : Nat) (v : Value), (zen as)[i]? = some (some v) → (j + i, zt b bs v) ∈ lv_args j (as.map (zt b bs))
  | [], j, i, v, h => by simp [zen] at h
  | a :: as, j, i, v, h => by
    simp only [List.map_cons, lv_args, zt_cat]
    unfold zen at h
    by_cases hc : a.category = 2
    · rw [if_pos hc] at h ⊢
      match i, h with
      | 0, h =>
        simp at h
        subst h
        exact List.mem_cons_self
      | 1, h => simp at h
      | i + 2, h =>
        have := zen_at b bs as (j + 2) i v (by simpa using h)
        rw [show j + 2 + i = j + (i + 2) by omega] at this
        exact List.mem_cons_of_mem _ this
    · rw [if_neg hc] at h ⊢
      match i, h with
      | 0, h =>
        simp at h
        subst h
        exact List.mem_cons_self
      | i + 1, h =>
        have := zen_at b bs as (j + 1) i v (by simpa using h)
        rw [show j + 1 + i = j + (i + 1) by omega] at this
        exact List.mem_cons_of_mem _ this
theorem zen_len (b bs : Nat) : ∀ (as : List Value), (lg_sl (as.map (zt b bs))).length = (zen as).length
  | [] => rfl
  | a :: as => by
    have ih := zen_len b bs as
    unfold lg_sl at ih ⊢
    rw [List.map_cons, List.flatMap_cons, List.length_append, ih, zt_cat]
    rw [show zen (a :: as) = if a.category = 2 then some a :: none :: zen as else some a :: zen as from rfl]
    by_cases hc : a.category = 2 <;> simp [hc] <;> omega
def zlo (as : List Value) (nL : Nat) : List (Option Value) := zen as ++ List.replicate (nL - (zen as).length) none
theorem zlo_at {as : List Value} {nL i : Nat} {v : Value} (h : (zlo as nL)[i]? = some (some v)) : (zen as)[i]? = some (some v) := by
  unfold zlo at h
  by_cases hl : i < (zen as).length
  · rwa [List.getElem?_append_left hl] at h
  · rw [List.getElem?_append_right (by omega)] at h
    have := List.mem_of_getElem? h
    rw [List.mem_replicate] at this
    cases this.2
theorem Cl_of {as : List Value} (hy : plainName M.1.cls = true) (hn : (zen as).length ≤ M.2.2.1) (hlo : zlo as M.2.2.1 = lo) (K : Z S none M d mc ms Q 0 lo [] μ 0 0) : Cl S M d mc ms as μ Q := by
  subst hlo
  intro l b bs G
  refine Met.ofW (cc := M.2.1) (maxL := M.2.2.1) (ret := M.2.2.2) hy rfl ?_
  intro p e s m args below meth c s₁ B hml hv
  obtain ⟨rfl, hR, hK, hSh⟩ := hv
  have hlocks := B.notSynchronized
  have hr := B.returns
  have hl := lv_entry (as.map (zt b bs)) (n := M.2.2.1) (by rw [zen_len]; exact hn)
  rw [lg_entry_eq]
  refine K p l e _ s m _ below meth c b bs G _ s.heap [] _ ⟨B.exec, B.bytes, hml, findClass_of_methodNamed B.named, fun w hw => atoms_spec (ws := .code M.1 M.2.1 M.2.2.1 M.2.2.2 :: lw_g) B.pre w (List.mem_cons_of_mem _ hw), hK, fun h => (name_of_methodNamed B.named B.method).1.trans h, by rw [hR.1]; exact Nat.le_add_right _ _, ⟨Nat.le_refl d, Nat.le_refl (64 * d), Nat.le_refl mc, Nat.le_refl ms⟩, fun L f h => (by cases h), ?_⟩ hSh hR va_S.rf ⟨hl.1, hl.2.1, fun i v h => by
    have := zen_at b bs as 0 i v (zlo_at h)
    rw [Nat.zero_add] at this
    exact hl.2.2 _ this⟩
  intro v μ' H locs ls pc op hd ho h1 h2 h3 hq
  have fin : ∀ t : State, t.heap = H → (∃ (v' : Option Value) (μ' : zMem), Outcome.returned (v.map (zt b bs)) = .returned (v'.map (zt b bs)) ∧ Q v' μ' ∧ zSh S μ' ∧ zR G b μ' t.heap) ∧ va_F (fun q => b ≤ q) s t := fun t ht => ⟨⟨v, μ', rfl, hq, h1, by rw [ht]; exact h2⟩, h3.F ht⟩
  rcases ho with ⟨g1, rfl, rfl⟩ | ⟨z, g1, rfl, rfl⟩ | ⟨z, g1, gz, rfl, rfl⟩ | ⟨z, g1, rfl, rfl⟩ | ⟨C, q, g1, rfl, rfl⟩
  · exact W.vret B.exec B.bytes (hr.trans g1) (fun t ht _ => fin t ht) h3.2.2 hd
  · exact W.iret (v := Int32.ofInt z) B.exec B.bytes (hr.trans g1) (fun t ht _ => fin t ht) h3.2.2 hd
  · exact W.zret (v := Int32.ofInt z) B.exec B.bytes (hr.trans g1) (by rcases gz with rfl | rfl <;> rfl) (fun t ht _ => fin t ht) h3.2.2 hd
  · exact W.lret (v := z) B.exec B.bytes (hr.trans g1) (fun t ht _ => fin t ht) h3.2.2 hd
  · exact W.aret (v := .ref (b + q)) B.exec B.bytes (hr.trans g1) (Or.inl ⟨C, rfl⟩) (Or.inr ⟨_, rfl⟩) (fun t ht _ => fin t ht) h3.2.2 hd
end ZCalls
end
section
/-! methods, links and places: by program -/
abbrev mX0_init : zMt := (yX0_init, cX0_init, 1, none)
abbrev mX0_learn : zMt := (yX0_learn, cX0_learn, 4, none)
abbrev mX0_lengthOf : zMt := (yX0_lengthOf, cX0_lengthOf, 3, some .int)
abbrev mX0_firstOf : zMt := (yX0_firstOf, cX0_firstOf, 3, some .int)
abbrev mX0_findSpan : zMt := (yX0_findSpan, cX0_findSpan, 8, none)
abbrev mX1_init : zMt := (yX1_init, cX1_init, 1, none)
abbrev mX1_copyFrom : zMt := (yX1_copyFrom, cX1_copyFrom, 2, none)
abbrev mX1_append : zMt := (yX1_append, cX1_append, 7, none)
abbrev mX1_canShift : zMt := (yX1_canShift, cX1_canShift, 5, some .boolean)
abbrev mX1_shift : zMt := (yX1_shift, cX1_shift, 5, none)
abbrev mX1_drop : zMt := (yX1_drop, cX1_drop, 3, none)
abbrev mX1_isFreeAt : zMt := (yX1_isFreeAt, cX1_isFreeAt, 3, some .boolean)
abbrev mX1_freeCells : zMt := (yX1_freeCells, cX1_freeCells, 3, some .int)
abbrev mX1_freeColumns : zMt := (yX1_freeColumns, cX1_freeColumns, 6, some .long)
abbrev mX1_toggle : zMt := (yX1_toggle, cX1_toggle, 3, none)
abbrev mX1_columnsOf : zMt := (yX1_columnsOf, cX1_columnsOf, 12, some .long)
abbrev mX1_belongs : zMt := (yX1_belongs, cX1_belongs, 6, some .boolean)
abbrev mX2_init : zMt := (yX2_init, cX2_init, 3, none)
abbrev mX2_putTotals : zMt := (yX2_putTotals, cX2_putTotals, 5, none)
abbrev mX3_init : zMt := (yX3_init, cX3_init, 1, none)
abbrev mX3_measure : zMt := (yX3_measure, cX3_measure, 6, some .boolean)
abbrev mX3_widthOf : zMt := (yX3_widthOf, cX3_widthOf, 3, some .int)
abbrev mX3_heightOf : zMt := (yX3_heightOf, cX3_heightOf, 3, some .int)
abbrev mX3_findLastEnds : zMt := (yX3_findLastEnds, cX3_findLastEnds, 4, none)
abbrev mX3_measureLines : zMt := (yX3_measureLines, cX3_measureLines, 5, none)
abbrev mX4_init : zMt := (yX4_init, cX4_init, 1, none)
abbrev mX4_hasLayout : zMt := (yX4_hasLayout, cX4_hasLayout, 5, some .boolean)
abbrev mX4_countLayouts : zMt := (yX4_countLayouts, cX4_countLayouts, 3, some .int)
abbrev mX4_findBest : zMt := (yX4_findBest, cX4_findBest, 3, some .int)
abbrev mX4_prepare : zMt := (yX4_prepare, cX4_prepare, 6, some .boolean)
abbrev mX4_run : zMt := (yX4_run, cX4_run, 3, none)
abbrev mX4_findLeastCosts : zMt := (yX4_findLeastCosts, cX4_findLeastCosts, 3, none)
abbrev mX4_findLeastCost : zMt := (yX4_findLeastCost, cX4_findLeastCost, 8, some .int)
abbrev mX4_leastCostFrom : zMt := (yX4_leastCostFrom, cX4_leastCostFrom, 3, some .int)
abbrev mX4_rowBehind : zMt := (yX4_rowBehind, cX4_rowBehind, 4, some .int)
abbrev mX4_slackOf : zMt := (yX4_slackOf, cX4_slackOf, 6, some .int)
abbrev mX4_layFrom : zMt := (yX4_layFrom, cX4_layFrom, 7, none)
abbrev mX4_tryLine : zMt := (yX4_tryLine, cX4_tryLine, 9, none)
abbrev mX4_keep : zMt := (yX4_keep, cX4_keep, 3, none)
abbrev mX4_placeWords : zMt := (yX4_placeWords, cX4_placeWords, 7, none)
abbrev mX4_chainFromAbove : zMt := (yX4_chainFromAbove, cX4_chainFromAbove, 6, some .int)
abbrev mX4_chainFromBelow : zMt := (yX4_chainFromBelow, cX4_chainFromBelow, 6, none)
abbrev mX4_longestTouching : zMt := (yX4_longestTouching, cX4_longestTouching, 7, some .int)
abbrev mX4_describeBest : zMt := (yX4_describeBest, cX4_describeBest, 6, some (.object "PosterFitter$Layout"))
abbrev mX4_describeLine : zMt := (yX4_describeLine, cX4_describeLine, 9, none)
abbrev mX4_describeWords : zMt := (yX4_describeWords, cX4_describeWords, 5, none)
abbrev mX5_init : zMt := (yX5_init, cX5_init, 1, none)
abbrev mX5_copyFrom : zMt := (yX5_copyFrom, cX5_copyFrom, 2, none)
abbrev mX5_partOfWord : zMt := (yX5_partOfWord, cX5_partOfWord, 3, some .int)
abbrev mX5_putWord : zMt := (yX5_putWord, cX5_putWord, 5, none)
abbrev mX6_init : zMt := (yX6_init, cX6_init, 1, none)
abbrev mX6_read : zMt := (yX6_read, cX6_read, 4, some .int)
abbrev mX6_accepts : zMt := (yX6_accepts, cX6_accepts, 2, some .boolean)
abbrev mX6_isLetter : zMt := (yX6_isLetter, cX6_isLetter, 1, some .boolean)
abbrev mX6_goTo : zMt := (yX6_goTo, cX6_goTo, 2, some .boolean)
abbrev mX6_beginWord : zMt := (yX6_beginWord, cX6_beginWord, 2, some .boolean)
abbrev mX6_addLetter : zMt := (yX6_addLetter, cX6_addLetter, 1, some .boolean)
abbrev mX6_addShout : zMt := (yX6_addShout, cX6_addShout, 1, some .boolean)
abbrev mX6_addUpTo : zMt := (yX6_addUpTo, cX6_addUpTo, 4, some .boolean)
abbrev mX7_init : zMt := (yX7_init, cX7_init, 2, none)
abbrev mX7_addShape : zMt := (yX7_addShape, cX7_addShape, 6, some .int)
abbrev mX7_moveShape : zMt := (yX7_moveShape, cX7_moveShape, 4, some .int)
abbrev mX7_removeShape : zMt := (yX7_removeShape, cX7_removeShape, 2, some .int)
abbrev mX7_isFree : zMt := (yX7_isFree, cX7_isFree, 3, some .int)
abbrev mX7_span : zMt := (yX7_span, cX7_span, 4, some .int)
abbrev mX7_addWord : zMt := (yX7_addWord, cX7_addWord, 3, some .int)
abbrev mX7_setWord : zMt := (yX7_setWord, cX7_setWord, 6, some .int)
abbrev mX7_clearWords : zMt := (yX7_clearWords, cX7_clearWords, 2, some .int)
abbrev mX7_setSizes : zMt := (yX7_setSizes, cX7_setSizes, 6, some .int)
abbrev mX7_setLines : zMt := (yX7_setLines, cX7_setLines, 6, some .int)
abbrev mX7_count : zMt := (yX7_count, cX7_count, 2, some .int)
abbrev mX7_word : zMt := (yX7_word, cX7_word, 3, some .int)
abbrev mX7_cost : zMt := (yX7_cost, cX7_cost, 2, some .int)
abbrev mX7_fit : zMt := (yX7_fit, cX7_fit, 1, some .int)
abbrev mX7_allowed : zMt := (yX7_allowed, cX7_allowed, 2, some .int)
abbrev mX7_take : zMt := (yX7_take, cX7_take, 4, some .int)
abbrev mX7_widestStep : zMt := (yX7_widestStep, cX7_widestStep, 3, some .int)
abbrev mX7_tightestLimit : zMt := (yX7_tightestLimit, cX7_tightestLimit, 3, some .int)
abbrev mX7_layout : zMt := (yX7_layout, cX7_layout, 2, some .int)
abbrev mX7_line : zMt := (yX7_line, cX7_line, 3, some .int)
abbrev mX7_placed : zMt := (yX7_placed, cX7_placed, 3, some .int)
abbrev mX7_type : zMt := (yX7_type, cX7_type, 2, some .int)
abbrev mX7_clearText : zMt := (yX7_clearText, cX7_clearText, 2, some .int)
abbrev mX7_textFault : zMt := (yX7_textFault, cX7_textFault, 1, some .int)
abbrev mX7_load : zMt := (yX7_load, cX7_load, 1, some .int)
abbrev mX7_undo : zMt := (yX7_undo, cX7_undo, 1, some .int)
abbrev mX7_digest : zMt := (yX7_digest, cX7_digest, 4, some .long)
abbrev mX7_isIn : zMt := (yX7_isIn, cX7_isIn, 3, some .boolean)
abbrev mX7_isBox : zMt := (yX7_isBox, cX7_isBox, 4, some .boolean)
abbrev mX7_isBand : zMt := (yX7_isBand, cX7_isBand, 2, some .boolean)
abbrev mX7_addAll : zMt := (yX7_addAll, cX7_addAll, 7, some .long)
abbrev mX7_remember : zMt := (yX7_remember, cX7_remember, 1, none)
abbrev mX7_dropOldest : zMt := (yX7_dropOldest, cX7_dropOldest, 3, none)
abbrev mX7_greatestBase : zMt := (yX7_greatestBase, cX7_greatestBase, 3, some .int)
abbrev mX8_init : zMt := (yX8_init, cX8_init, 1, none)
abbrev mX8_in : zMt := (yX8_in, cX8_in, 3, some .boolean)
abbrev mX8_copies : zMt := (yX8_copies, cX8_copies, 4, none)
abbrev mX8_records : zMt := (yX8_records, cX8_records, 2, none)
abbrev mX8_shapeOf : zMt := (yX8_shapeOf, cX8_shapeOf, 3, some .int)
abbrev mX8_size : zMt := (yX8_size, cX8_size, 1, some .int)
abbrev mX8_belongs : zMt := (yX8_belongs, cX8_belongs, 13, some .boolean)
abbrev mX8_free : zMt := (yX8_free, cX8_free, 5, some .boolean)
abbrev mX8_freeCells : zMt := (yX8_freeCells, cX8_freeCells, 4, some .int)
abbrev mX8_isShape : zMt := (yX8_isShape, cX8_isShape, 2, some .boolean)
abbrev mX8_addShape : zMt := (yX8_addShape, cX8_addShape, 7, some .int)
abbrev mX8_moveShape : zMt := (yX8_moveShape, cX8_moveShape, 5, some .int)
abbrev mX8_removeShape : zMt := (yX8_removeShape, cX8_removeShape, 3, some .int)
abbrev mX8_isFree : zMt := (yX8_isFree, cX8_isFree, 3, some .int)
abbrev mX8_findsSpans : zMt := (yX8_findsSpans, cX8_findsSpans, 5, none)
abbrev mX8_notesSpan : zMt := (yX8_notesSpan, cX8_notesSpan, 6, none)
abbrev mX8_span : zMt := (yX8_span, cX8_span, 4, some .int)
abbrev mX8_of : zMt := (yX8_of, cX8_of, 3, some .int)
abbrev mX8_isWord : zMt := (yX8_isWord, cX8_isWord, 2, some .boolean)
abbrev mX8_becomes : zMt := (yX8_becomes, cX8_becomes, 5, none)
abbrev mX8_addWord : zMt := (yX8_addWord, cX8_addWord, 3, some .int)
abbrev mX8_setWord : zMt := (yX8_setWord, cX8_setWord, 6, some .int)
abbrev mX8_clearWords : zMt := (yX8_clearWords, cX8_clearWords, 2, some .int)
abbrev mX8_setSizes : zMt := (yX8_setSizes, cX8_setSizes, 6, some .int)
abbrev mX8_setLines : zMt := (yX8_setLines, cX8_setLines, 6, some .int)
abbrev mX8_count : zMt := (yX8_count, cX8_count, 2, some .int)
abbrev mX8_word : zMt := (yX8_word, cX8_word, 3, some .int)
abbrev mX8_sizeOf : zMt := (yX8_sizeOf, cX8_sizeOf, 3, some .int)
abbrev mX8_isLeast : zMt := (yX8_isLeast, cX8_isLeast, 4, some .boolean)
abbrev mX8_breaks : zMt := (yX8_breaks, cX8_breaks, 3, some .boolean)
abbrev mX8_least : zMt := (yX8_least, cX8_least, 2, some .int)
abbrev mX8_lays : zMt := (yX8_lays, cX8_lays, 12, some .int)
abbrev mX8_places : zMt := (yX8_places, cX8_places, 8, none)
abbrev mX8_hasGap : zMt := (yX8_hasGap, cX8_hasGap, 2, some .boolean)
abbrev mX8_gapFrom : zMt := (yX8_gapFrom, cX8_gapFrom, 2, some .int)
abbrev mX8_touch : zMt := (yX8_touch, cX8_touch, 3, some .boolean)
abbrev mX8_chainsUp : zMt := (yX8_chainsUp, cX8_chainsUp, 6, none)
abbrev mX8_chains : zMt := (yX8_chains, cX8_chains, 4, none)
abbrev mX8_finds : zMt := (yX8_finds, cX8_finds, 6, some .int)
abbrev mX8_fits : zMt := (yX8_fits, cX8_fits, 2, some .int)
abbrev mX8_cost : zMt := (yX8_cost, cX8_cost, 2, some .int)
abbrev mX8_fit : zMt := (yX8_fit, cX8_fit, 1, some .int)
abbrev mX8_allowed : zMt := (yX8_allowed, cX8_allowed, 3, some .int)
abbrev mX8_take : zMt := (yX8_take, cX8_take, 5, some .int)
abbrev mX8_widestStep : zMt := (yX8_widestStep, cX8_widestStep, 5, some .int)
abbrev mX8_tightestLimit : zMt := (yX8_tightestLimit, cX8_tightestLimit, 5, some .int)
abbrev mX8_layout : zMt := (yX8_layout, cX8_layout, 2, some .int)
abbrev mX8_line : zMt := (yX8_line, cX8_line, 3, some .int)
abbrev mX8_placed : zMt := (yX8_placed, cX8_placed, 3, some .int)
abbrev mX8_type : zMt := (yX8_type, cX8_type, 2, some .int)
abbrev mX8_clearText : zMt := (yX8_clearText, cX8_clearText, 2, some .int)
abbrev mX8_isLetter : zMt := (yX8_isLetter, cX8_isLetter, 1, some .boolean)
abbrev mX8_isSign : zMt := (yX8_isSign, cX8_isSign, 2, some .boolean)
abbrev mX8_blanks : zMt := (yX8_blanks, cX8_blanks, 2, some .boolean)
abbrev mX8_readsText : zMt := (yX8_readsText, cX8_readsText, 7, some .boolean)
abbrev mX8_textFault : zMt := (yX8_textFault, cX8_textFault, 1, some .int)
abbrev mX8_load : zMt := (yX8_load, cX8_load, 2, some .int)
abbrev mX8_undo : zMt := (yX8_undo, cX8_undo, 1, some .int)
abbrev mX8_note : zMt := (yX8_note, cX8_note, 3, none)
abbrev mX8_digest : zMt := (yX8_digest, cX8_digest, 2, some .long)
abbrev mJ13_bitCount_95d88 : zMt := (yJ13_bitCount_95d88, cJ13_bitCount_95d88, 2, some .int)
abbrev mJ7_fill_53178 : zMt := (yJ7_fill_53178, cJ7_fill_53178, 4, none)
abbrev mL_law : zMt := (yL_law, cL_law, 4, some .boolean)
set_option maxRecDepth 20000 in
theorem iX0_init : zIi mX0_init 0 := ⟨rfl, rfl, by decide, List.mem_of_getElem? (i := 166) (by decide +kernel), List.mem_of_getElem? (i := 66) (by decide +kernel), List.mem_of_getElem? (i := 167) rfl, ⟨by decide, by decide, by decide +kernel⟩⟩
set_option maxRecDepth 20000 in
theorem vX0_learn : zVi mX0_learn 0 2 := ⟨by decide, rfl, by decide, List.mem_of_getElem? (i := 385) (by decide +kernel), List.mem_of_getElem? (i := 386) (by decide +kernel), List.mem_of_getElem? (i := 66) (by decide +kernel), List.mem_of_getElem? (i := 387) rfl, ⟨by decide, by decide, by decide +kernel⟩⟩
set_option maxRecDepth 20000 in
theorem vX0_lengthOf : zVi mX0_lengthOf 0 2 := ⟨by decide, rfl, by decide, List.mem_of_getElem? (i := 397) (by decide +kernel), List.mem_of_getElem? (i := 398) (by decide +kernel), List.mem_of_getElem? (i := 66) (by decide +kernel), List.mem_of_getElem? (i := 399) rfl, ⟨by decide, by decide, by decide +kernel⟩⟩
set_option maxRecDepth 20000 in
theorem vX0_firstOf : zVi mX0_firstOf 0 2 := ⟨by decide, rfl, by decide, List.mem_of_getElem? (i := 401) (by decide +kernel), List.mem_of_getElem? (i := 402) (by decide +kernel), List.mem_of_getElem? (i := 66) (by decide +kernel), List.mem_of_getElem? (i := 403) rfl, ⟨by decide, by decide, by decide +kernel⟩⟩
set_option maxRecDepth 20000 in
theorem vX0_findSpan : zVi mX0_findSpan 0 2 := ⟨by decide, rfl, by decide, List.mem_of_getElem? (i := 394) (by decide +kernel), List.mem_of_getElem? (i := 4) (by decide +kernel), List.mem_of_getElem? (i := 66) (by decide +kernel), List.mem_of_getElem? (i := 395) rfl, ⟨by decide, by decide, by decide +kernel⟩⟩
set_option maxRecDepth 20000 in
theorem iX1_init : zIi mX1_init 0 := ⟨rfl, rfl, by decide, List.mem_of_getElem? (i := 90) (by decide +kernel), List.mem_of_getElem? (i := 62) (by decide +kernel), List.mem_of_getElem? (i := 91) rfl, ⟨by decide, by decide, by decide +kernel⟩⟩
set_option maxRecDepth 20000 in
theorem vX1_copyFrom : zVi mX1_copyFrom 1 1 := ⟨by decide, rfl, by decide, List.mem_of_getElem? (i := 313) (by decide +kernel), List.mem_of_getElem? (i := 314) (by decide +kernel), List.mem_of_getElem? (i := 62) (by decide +kernel), List.mem_of_getElem? (i := 315) rfl, ⟨by decide, by decide, by decide +kernel⟩⟩
set_option maxRecDepth 20000 in
theorem vX1_append : zVi mX1_append 1 5 := ⟨by decide, rfl, by decide, List.mem_of_getElem? (i := 321) (by decide +kernel), List.mem_of_getElem? (i := 322) (by decide +kernel), List.mem_of_getElem? (i := 62) (by decide +kernel), List.mem_of_getElem? (i := 323) rfl, ⟨by decide, by decide, by decide +kernel⟩⟩
set_option maxRecDepth 20000 in
theorem vX1_canShift : zVi mX1_canShift 1 3 := ⟨by decide, rfl, by decide, List.mem_of_getElem? (i := 343) (by decide +kernel), List.mem_of_getElem? (i := 344) (by decide +kernel), List.mem_of_getElem? (i := 62) (by decide +kernel), List.mem_of_getElem? (i := 345) rfl, ⟨by decide, by decide, by decide +kernel⟩⟩
set_option maxRecDepth 20000 in
theorem vX1_shift : zVi mX1_shift 1 3 := ⟨by decide, rfl, by decide, List.mem_of_getElem? (i := 348) (by decide +kernel), List.mem_of_getElem? (i := 349) (by decide +kernel), List.mem_of_getElem? (i := 62) (by decide +kernel), List.mem_of_getElem? (i := 350) rfl, ⟨by decide, by decide, by decide +kernel⟩⟩
set_option maxRecDepth 20000 in
theorem vX1_drop : zVi mX1_drop 1 1 := ⟨by decide, rfl, by decide, List.mem_of_getElem? (i := 366) (by decide +kernel), List.mem_of_getElem? (i := 367) (by decide +kernel), List.mem_of_getElem? (i := 62) (by decide +kernel), List.mem_of_getElem? (i := 368) rfl, ⟨by decide, by decide, by decide +kernel⟩⟩
set_option maxRecDepth 20000 in
theorem vX1_isFreeAt : zVi mX1_isFreeAt 1 2 := ⟨by decide, rfl, by decide, List.mem_of_getElem? (i := 374) (by decide +kernel), List.mem_of_getElem? (i := 375) (by decide +kernel), List.mem_of_getElem? (i := 62) (by decide +kernel), List.mem_of_getElem? (i := 376) rfl, ⟨by decide, by decide, by decide +kernel⟩⟩
set_option maxRecDepth 20000 in
theorem vX1_freeCells : zVi mX1_freeCells 1 0 := ⟨by decide, rfl, by decide, List.mem_of_getElem? (i := 352) (by decide +kernel), List.mem_of_getElem? (i := 353) (by decide +kernel), List.mem_of_getElem? (i := 62) (by decide +kernel), List.mem_of_getElem? (i := 354) rfl, ⟨by decide, by decide, by decide +kernel⟩⟩
set_option maxRecDepth 20000 in
theorem vX1_freeColumns : zVi mX1_freeColumns 1 2 := ⟨by decide, rfl, by decide, List.mem_of_getElem? (i := 389) (by decide +kernel), List.mem_of_getElem? (i := 390) (by decide +kernel), List.mem_of_getElem? (i := 62) (by decide +kernel), List.mem_of_getElem? (i := 391) rfl, ⟨by decide, by decide, by decide +kernel⟩⟩
set_option maxRecDepth 20000 in
theorem vX1_toggle : zVi mX1_toggle 1 1 := ⟨by decide, rfl, by decide, List.mem_of_getElem? (i := 326) (by decide +kernel), List.mem_of_getElem? (i := 2) (by decide +kernel), List.mem_of_getElem? (i := 62) (by decide +kernel), List.mem_of_getElem? (i := 327) rfl, ⟨by decide, by decide, by decide +kernel⟩⟩
set_option maxRecDepth 20000 in
theorem vX1_columnsOf : zVi mX1_columnsOf 1 2 := ⟨by decide, rfl, by decide, List.mem_of_getElem? (i := 330) (by decide +kernel), List.mem_of_getElem? (i := 3) (by decide +kernel), List.mem_of_getElem? (i := 62) (by decide +kernel), List.mem_of_getElem? (i := 331) rfl, ⟨by decide, by decide, by decide +kernel⟩⟩
set_option maxRecDepth 20000 in
theorem sX1_belongs : zSt mX1_belongs 6 := ⟨by decide, List.mem_of_getElem? (i := 336) (by decide +kernel), List.mem_of_getElem? (i := 62) (by decide +kernel), List.mem_of_getElem? (i := 337) rfl, ⟨by decide, by decide, by decide +kernel⟩⟩
set_option maxRecDepth 20000 in
theorem iX2_init : zIi mX2_init 2 := ⟨rfl, rfl, by decide, List.mem_of_getElem? (i := 564) (by decide +kernel), List.mem_of_getElem? (i := 72) (by decide +kernel), List.mem_of_getElem? (i := 565) rfl, ⟨by decide, by decide, by decide +kernel⟩⟩
set_option maxRecDepth 20000 in
theorem vX2_putTotals : zVi mX2_putTotals 2 4 := ⟨by decide, rfl, by decide, List.mem_of_getElem? (i := 603) (by decide +kernel), List.mem_of_getElem? (i := 604) (by decide +kernel), List.mem_of_getElem? (i := 72) (by decide +kernel), List.mem_of_getElem? (i := 605) rfl, ⟨by decide, by decide, by decide +kernel⟩⟩
set_option maxRecDepth 20000 in
theorem iX3_init : zIi mX3_init 0 := ⟨rfl, rfl, by decide, List.mem_of_getElem? (i := 182) (by decide +kernel), List.mem_of_getElem? (i := 67) (by decide +kernel), List.mem_of_getElem? (i := 183) rfl, ⟨by decide, by decide, by decide +kernel⟩⟩
set_option maxRecDepth 20000 in
theorem vX3_measure : zVi mX3_measure 3 3 := ⟨by decide, rfl, by decide, List.mem_of_getElem? (i := 453) (by decide +kernel), List.mem_of_getElem? (i := 454) (by decide +kernel), List.mem_of_getElem? (i := 67) (by decide +kernel), List.mem_of_getElem? (i := 455) rfl, ⟨by decide, by decide, by decide +kernel⟩⟩
set_option maxRecDepth 20000 in
theorem vX3_widthOf : zVi mX3_widthOf 3 2 := ⟨by decide, rfl, by decide, List.mem_of_getElem? (i := 490) (by decide +kernel), List.mem_of_getElem? (i := 491) (by decide +kernel), List.mem_of_getElem? (i := 67) (by decide +kernel), List.mem_of_getElem? (i := 492) rfl, ⟨by decide, by decide, by decide +kernel⟩⟩
set_option maxRecDepth 20000 in
theorem vX3_heightOf : zVi mX3_heightOf 3 2 := ⟨by decide, rfl, by decide, List.mem_of_getElem? (i := 485) (by decide +kernel), List.mem_of_getElem? (i := 486) (by decide +kernel), List.mem_of_getElem? (i := 67) (by decide +kernel), List.mem_of_getElem? (i := 487) rfl, ⟨by decide, by decide, by decide +kernel⟩⟩
set_option maxRecDepth 20000 in
theorem vX3_findLastEnds : zVi mX3_findLastEnds 3 1 := ⟨by decide, rfl, by decide, List.mem_of_getElem? (i := 462) (by decide +kernel), List.mem_of_getElem? (i := 6) (by decide +kernel), List.mem_of_getElem? (i := 67) (by decide +kernel), List.mem_of_getElem? (i := 463) rfl, ⟨by decide, by decide, by decide +kernel⟩⟩
set_option maxRecDepth 20000 in
theorem vX3_measureLines : zVi mX3_measureLines 3 0 := ⟨by decide, rfl, by decide, List.mem_of_getElem? (i := 466) (by decide +kernel), List.mem_of_getElem? (i := 7) (by decide +kernel), List.mem_of_getElem? (i := 67) (by decide +kernel), List.mem_of_getElem? (i := 467) rfl, ⟨by decide, by decide, by decide +kernel⟩⟩
set_option maxRecDepth 20000 in
theorem iX4_init : zIi mX4_init 0 := ⟨rfl, rfl, by decide, List.mem_of_getElem? (i := 160) (by decide +kernel), List.mem_of_getElem? (i := 65) (by decide +kernel), List.mem_of_getElem? (i := 161) rfl, ⟨by decide, by decide, by decide +kernel⟩⟩
set_option maxRecDepth 20000 in
theorem vX4_hasLayout : zVi mX4_hasLayout 4 4 := ⟨by decide, rfl, by decide, List.mem_of_getElem? (i := 542) (by decide +kernel), List.mem_of_getElem? (i := 543) (by decide +kernel), List.mem_of_getElem? (i := 65) (by decide +kernel), List.mem_of_getElem? (i := 544) rfl, ⟨by decide, by decide, by decide +kernel⟩⟩
set_option maxRecDepth 20000 in
theorem vX4_countLayouts : zVi mX4_countLayouts 4 2 := ⟨by decide, rfl, by decide, List.mem_of_getElem? (i := 550) (by decide +kernel), List.mem_of_getElem? (i := 551) (by decide +kernel), List.mem_of_getElem? (i := 65) (by decide +kernel), List.mem_of_getElem? (i := 552) rfl, ⟨by decide, by decide, by decide +kernel⟩⟩
set_option maxRecDepth 20000 in
theorem vX4_findBest : zVi mX4_findBest 4 2 := ⟨by decide, rfl, by decide, List.mem_of_getElem? (i := 445) (by decide +kernel), List.mem_of_getElem? (i := 446) (by decide +kernel), List.mem_of_getElem? (i := 65) (by decide +kernel), List.mem_of_getElem? (i := 447) rfl, ⟨by decide, by decide, by decide +kernel⟩⟩
set_option maxRecDepth 20000 in
theorem vX4_prepare : zVi mX4_prepare 4 4 := ⟨by decide, rfl, by decide, List.mem_of_getElem? (i := 450) (by decide +kernel), List.mem_of_getElem? (i := 5) (by decide +kernel), List.mem_of_getElem? (i := 65) (by decide +kernel), List.mem_of_getElem? (i := 451) rfl, ⟨by decide, by decide, by decide +kernel⟩⟩
set_option maxRecDepth 20000 in
theorem vX4_run : zVi mX4_run 4 2 := ⟨by decide, rfl, by decide, List.mem_of_getElem? (i := 504) (by decide +kernel), List.mem_of_getElem? (i := 13) (by decide +kernel), List.mem_of_getElem? (i := 65) (by decide +kernel), List.mem_of_getElem? (i := 505) rfl, ⟨by decide, by decide, by decide +kernel⟩⟩
set_option maxRecDepth 20000 in
theorem vX4_findLeastCosts : zVi mX4_findLeastCosts 4 0 := ⟨by decide, rfl, by decide, List.mem_of_getElem? (i := 474) (by decide +kernel), List.mem_of_getElem? (i := 8) (by decide +kernel), List.mem_of_getElem? (i := 65) (by decide +kernel), List.mem_of_getElem? (i := 475) rfl, ⟨by decide, by decide, by decide +kernel⟩⟩
set_option maxRecDepth 20000 in
theorem vX4_findLeastCost : zVi mX4_findLeastCost 4 2 := ⟨by decide, rfl, by decide, List.mem_of_getElem? (i := 478) (by decide +kernel), List.mem_of_getElem? (i := 9) (by decide +kernel), List.mem_of_getElem? (i := 65) (by decide +kernel), List.mem_of_getElem? (i := 479) rfl, ⟨by decide, by decide, by decide +kernel⟩⟩
set_option maxRecDepth 20000 in
theorem vX4_leastCostFrom : zVi mX4_leastCostFrom 4 2 := ⟨by decide, rfl, by decide, List.mem_of_getElem? (i := 499) (by decide +kernel), List.mem_of_getElem? (i := 12) (by decide +kernel), List.mem_of_getElem? (i := 65) (by decide +kernel), List.mem_of_getElem? (i := 500) rfl, ⟨by decide, by decide, by decide +kernel⟩⟩
set_option maxRecDepth 20000 in
theorem vX4_rowBehind : zVi mX4_rowBehind 4 3 := ⟨by decide, rfl, by decide, List.mem_of_getElem? (i := 495) (by decide +kernel), List.mem_of_getElem? (i := 11) (by decide +kernel), List.mem_of_getElem? (i := 65) (by decide +kernel), List.mem_of_getElem? (i := 496) rfl, ⟨by decide, by decide, by decide +kernel⟩⟩
set_option maxRecDepth 20000 in
theorem vX4_slackOf : zVi mX4_slackOf 4 3 := ⟨by decide, rfl, by decide, List.mem_of_getElem? (i := 482) (by decide +kernel), List.mem_of_getElem? (i := 10) (by decide +kernel), List.mem_of_getElem? (i := 65) (by decide +kernel), List.mem_of_getElem? (i := 483) rfl, ⟨by decide, by decide, by decide +kernel⟩⟩
set_option maxRecDepth 20000 in
theorem vX4_layFrom : zVi mX4_layFrom 4 3 := ⟨by decide, rfl, by decide, List.mem_of_getElem? (i := 508) (by decide +kernel), List.mem_of_getElem? (i := 14) (by decide +kernel), List.mem_of_getElem? (i := 65) (by decide +kernel), List.mem_of_getElem? (i := 509) rfl, ⟨by decide, by decide, by decide +kernel⟩⟩
set_option maxRecDepth 20000 in
theorem vX4_tryLine : zVi mX4_tryLine 4 4 := ⟨by decide, rfl, by decide, List.mem_of_getElem? (i := 517) (by decide +kernel), List.mem_of_getElem? (i := 16) (by decide +kernel), List.mem_of_getElem? (i := 65) (by decide +kernel), List.mem_of_getElem? (i := 518) rfl, ⟨by decide, by decide, by decide +kernel⟩⟩
set_option maxRecDepth 20000 in
theorem vX4_keep : zVi mX4_keep 4 2 := ⟨by decide, rfl, by decide, List.mem_of_getElem? (i := 512) (by decide +kernel), List.mem_of_getElem? (i := 15) (by decide +kernel), List.mem_of_getElem? (i := 65) (by decide +kernel), List.mem_of_getElem? (i := 513) rfl, ⟨by decide, by decide, by decide +kernel⟩⟩
set_option maxRecDepth 20000 in
theorem vX4_placeWords : zVi mX4_placeWords 4 4 := ⟨by decide, rfl, by decide, List.mem_of_getElem? (i := 521) (by decide +kernel), List.mem_of_getElem? (i := 17) (by decide +kernel), List.mem_of_getElem? (i := 65) (by decide +kernel), List.mem_of_getElem? (i := 522) rfl, ⟨by decide, by decide, by decide +kernel⟩⟩
set_option maxRecDepth 20000 in
theorem vX4_chainFromAbove : zVi mX4_chainFromAbove 4 1 := ⟨by decide, rfl, by decide, List.mem_of_getElem? (i := 526) (by decide +kernel), List.mem_of_getElem? (i := 18) (by decide +kernel), List.mem_of_getElem? (i := 65) (by decide +kernel), List.mem_of_getElem? (i := 527) rfl, ⟨by decide, by decide, by decide +kernel⟩⟩
set_option maxRecDepth 20000 in
theorem vX4_chainFromBelow : zVi mX4_chainFromBelow 4 2 := ⟨by decide, rfl, by decide, List.mem_of_getElem? (i := 596) (by decide +kernel), List.mem_of_getElem? (i := 22) (by decide +kernel), List.mem_of_getElem? (i := 65) (by decide +kernel), List.mem_of_getElem? (i := 597) rfl, ⟨by decide, by decide, by decide +kernel⟩⟩
set_option maxRecDepth 20000 in
theorem vX4_longestTouching : zVi mX4_longestTouching 4 4 := ⟨by decide, rfl, by decide, List.mem_of_getElem? (i := 530) (by decide +kernel), List.mem_of_getElem? (i := 19) (by decide +kernel), List.mem_of_getElem? (i := 65) (by decide +kernel), List.mem_of_getElem? (i := 531) rfl, ⟨by decide, by decide, by decide +kernel⟩⟩
set_option maxRecDepth 20000 in
theorem vX4_describeBest : zVi mX4_describeBest 4 1 := ⟨by decide, rfl, by decide, List.mem_of_getElem? (i := 558) (by decide +kernel), List.mem_of_getElem? (i := 559) (by decide +kernel), List.mem_of_getElem? (i := 65) (by decide +kernel), List.mem_of_getElem? (i := 560) rfl, ⟨by decide, by decide, by decide +kernel⟩⟩
set_option maxRecDepth 20000 in
theorem vX4_describeLine : zVi mX4_describeLine 4 3 := ⟨by decide, rfl, by decide, List.mem_of_getElem? (i := 592) (by decide +kernel), List.mem_of_getElem? (i := 21) (by decide +kernel), List.mem_of_getElem? (i := 65) (by decide +kernel), List.mem_of_getElem? (i := 593) rfl, ⟨by decide, by decide, by decide +kernel⟩⟩
set_option maxRecDepth 20000 in
theorem vX4_describeWords : zVi mX4_describeWords 4 2 := ⟨by decide, rfl, by decide, List.mem_of_getElem? (i := 600) (by decide +kernel), List.mem_of_getElem? (i := 23) (by decide +kernel), List.mem_of_getElem? (i := 65) (by decide +kernel), List.mem_of_getElem? (i := 601) rfl, ⟨by decide, by decide, by decide +kernel⟩⟩
set_option maxRecDepth 20000 in
theorem iX5_init : zIi mX5_init 0 := ⟨rfl, rfl, by decide, List.mem_of_getElem? (i := 84) (by decide +kernel), List.mem_of_getElem? (i := 61) (by decide +kernel), List.mem_of_getElem? (i := 85) rfl, ⟨by decide, by decide, by decide +kernel⟩⟩
set_option maxRecDepth 20000 in
theorem vX5_copyFrom : zVi mX5_copyFrom 5 1 := ⟨by decide, rfl, by decide, List.mem_of_getElem? (i := 309) (by decide +kernel), List.mem_of_getElem? (i := 310) (by decide +kernel), List.mem_of_getElem? (i := 61) (by decide +kernel), List.mem_of_getElem? (i := 311) rfl, ⟨by decide, by decide, by decide +kernel⟩⟩
set_option maxRecDepth 20000 in
theorem vX5_partOfWord : zVi mX5_partOfWord 5 2 := ⟨by decide, rfl, by decide, List.mem_of_getElem? (i := 417) (by decide +kernel), List.mem_of_getElem? (i := 418) (by decide +kernel), List.mem_of_getElem? (i := 61) (by decide +kernel), List.mem_of_getElem? (i := 419) rfl, ⟨by decide, by decide, by decide +kernel⟩⟩
set_option maxRecDepth 20000 in
theorem vX5_putWord : zVi mX5_putWord 5 4 := ⟨by decide, rfl, by decide, List.mem_of_getElem? (i := 409) (by decide +kernel), List.mem_of_getElem? (i := 410) (by decide +kernel), List.mem_of_getElem? (i := 61) (by decide +kernel), List.mem_of_getElem? (i := 411) rfl, ⟨by decide, by decide, by decide +kernel⟩⟩
set_option maxRecDepth 20000 in
theorem iX6_init : zIi mX6_init 0 := ⟨rfl, rfl, by decide, List.mem_of_getElem? (i := 142) (by decide +kernel), List.mem_of_getElem? (i := 64) (by decide +kernel), List.mem_of_getElem? (i := 143) rfl, ⟨by decide, by decide, by decide +kernel⟩⟩
set_option maxRecDepth 20000 in
theorem vX6_read : zVi mX6_read 6 2 := ⟨by decide, rfl, by decide, List.mem_of_getElem? (i := 639) (by decide +kernel), List.mem_of_getElem? (i := 640) (by decide +kernel), List.mem_of_getElem? (i := 64) (by decide +kernel), List.mem_of_getElem? (i := 641) rfl, ⟨by decide, by decide, by decide +kernel⟩⟩
set_option maxRecDepth 20000 in
theorem vX6_accepts : zVi mX6_accepts 6 1 := ⟨by decide, rfl, by decide, List.mem_of_getElem? (i := 644) (by decide +kernel), List.mem_of_getElem? (i := 24) (by decide +kernel), List.mem_of_getElem? (i := 64) (by decide +kernel), List.mem_of_getElem? (i := 645) rfl, ⟨by decide, by decide, by decide +kernel⟩⟩
set_option maxRecDepth 20000 in
theorem sX6_isLetter : zSt mX6_isLetter 1 := ⟨by decide, List.mem_of_getElem? (i := 647) (by decide +kernel), List.mem_of_getElem? (i := 64) (by decide +kernel), List.mem_of_getElem? (i := 648) rfl, ⟨by decide, by decide, by decide +kernel⟩⟩
set_option maxRecDepth 20000 in
theorem vX6_goTo : zVi mX6_goTo 6 1 := ⟨by decide, rfl, by decide, List.mem_of_getElem? (i := 660) (by decide +kernel), List.mem_of_getElem? (i := 27) (by decide +kernel), List.mem_of_getElem? (i := 64) (by decide +kernel), List.mem_of_getElem? (i := 661) rfl, ⟨by decide, by decide, by decide +kernel⟩⟩
set_option maxRecDepth 20000 in
theorem vX6_beginWord : zVi mX6_beginWord 6 0 := ⟨by decide, rfl, by decide, List.mem_of_getElem? (i := 664) (by decide +kernel), List.mem_of_getElem? (i := 28) (by decide +kernel), List.mem_of_getElem? (i := 64) (by decide +kernel), List.mem_of_getElem? (i := 665) rfl, ⟨by decide, by decide, by decide +kernel⟩⟩
set_option maxRecDepth 20000 in
theorem vX6_addLetter : zVi mX6_addLetter 6 0 := ⟨by decide, rfl, by decide, List.mem_of_getElem? (i := 652) (by decide +kernel), List.mem_of_getElem? (i := 25) (by decide +kernel), List.mem_of_getElem? (i := 64) (by decide +kernel), List.mem_of_getElem? (i := 653) rfl, ⟨by decide, by decide, by decide +kernel⟩⟩
set_option maxRecDepth 20000 in
theorem vX6_addShout : zVi mX6_addShout 6 0 := ⟨by decide, rfl, by decide, List.mem_of_getElem? (i := 668) (by decide +kernel), List.mem_of_getElem? (i := 29) (by decide +kernel), List.mem_of_getElem? (i := 64) (by decide +kernel), List.mem_of_getElem? (i := 669) rfl, ⟨by decide, by decide, by decide +kernel⟩⟩
set_option maxRecDepth 20000 in
theorem vX6_addUpTo : zVi mX6_addUpTo 6 2 := ⟨by decide, rfl, by decide, List.mem_of_getElem? (i := 656) (by decide +kernel), List.mem_of_getElem? (i := 26) (by decide +kernel), List.mem_of_getElem? (i := 64) (by decide +kernel), List.mem_of_getElem? (i := 657) rfl, ⟨by decide, by decide, by decide +kernel⟩⟩
set_option maxRecDepth 20000 in
theorem iX7_init : zIi mX7_init 0 := ⟨rfl, rfl, by decide, List.mem_of_getElem? (i := 76) (by decide +kernel), List.mem_of_getElem? (i := 60) (by decide +kernel), List.mem_of_getElem? (i := 77) rfl, ⟨by decide, by decide, by decide +kernel⟩⟩
set_option maxRecDepth 20000 in
theorem vX7_addShape : zVi mX7_addShape 7 5 := ⟨by decide, rfl, by decide, List.mem_of_getElem? (i := 291) (by decide +kernel), List.mem_of_getElem? (i := 292) (by decide +kernel), List.mem_of_getElem? (i := 60) (by decide +kernel), List.mem_of_getElem? (i := 293) rfl, ⟨by decide, by decide, by decide +kernel⟩⟩
set_option maxRecDepth 20000 in
theorem vX7_moveShape : zVi mX7_moveShape 7 3 := ⟨by decide, rfl, by decide, List.mem_of_getElem? (i := 339) (by decide +kernel), List.mem_of_getElem? (i := 340) (by decide +kernel), List.mem_of_getElem? (i := 60) (by decide +kernel), List.mem_of_getElem? (i := 341) rfl, ⟨by decide, by decide, by decide +kernel⟩⟩
set_option maxRecDepth 20000 in
theorem vX7_removeShape : zVi mX7_removeShape 7 1 := ⟨by decide, rfl, by decide, List.mem_of_getElem? (i := 362) (by decide +kernel), List.mem_of_getElem? (i := 363) (by decide +kernel), List.mem_of_getElem? (i := 60) (by decide +kernel), List.mem_of_getElem? (i := 364) rfl, ⟨by decide, by decide, by decide +kernel⟩⟩
set_option maxRecDepth 20000 in
theorem vX7_isFree : zVi mX7_isFree 7 2 := ⟨by decide, rfl, by decide, List.mem_of_getElem? (i := 370) (by decide +kernel), List.mem_of_getElem? (i := 371) (by decide +kernel), List.mem_of_getElem? (i := 60) (by decide +kernel), List.mem_of_getElem? (i := 372) rfl, ⟨by decide, by decide, by decide +kernel⟩⟩
set_option maxRecDepth 20000 in
theorem vX7_span : zVi mX7_span 7 3 := ⟨by decide, rfl, by decide, List.mem_of_getElem? (i := 378) (by decide +kernel), List.mem_of_getElem? (i := 379) (by decide +kernel), List.mem_of_getElem? (i := 60) (by decide +kernel), List.mem_of_getElem? (i := 380) rfl, ⟨by decide, by decide, by decide +kernel⟩⟩
set_option maxRecDepth 20000 in
theorem vX7_addWord : zVi mX7_addWord 7 2 := ⟨by decide, rfl, by decide, List.mem_of_getElem? (i := 405) (by decide +kernel), List.mem_of_getElem? (i := 406) (by decide +kernel), List.mem_of_getElem? (i := 60) (by decide +kernel), List.mem_of_getElem? (i := 407) rfl, ⟨by decide, by decide, by decide +kernel⟩⟩
set_option maxRecDepth 20000 in
theorem vX7_setWord : zVi mX7_setWord 7 4 := ⟨by decide, rfl, by decide, List.mem_of_getElem? (i := 413) (by decide +kernel), List.mem_of_getElem? (i := 414) (by decide +kernel), List.mem_of_getElem? (i := 60) (by decide +kernel), List.mem_of_getElem? (i := 415) rfl, ⟨by decide, by decide, by decide +kernel⟩⟩
set_option maxRecDepth 20000 in
theorem vX7_clearWords : zVi mX7_clearWords 7 0 := ⟨by decide, rfl, by decide, List.mem_of_getElem? (i := 421) (by decide +kernel), List.mem_of_getElem? (i := 422) (by decide +kernel), List.mem_of_getElem? (i := 60) (by decide +kernel), List.mem_of_getElem? (i := 423) rfl, ⟨by decide, by decide, by decide +kernel⟩⟩
set_option maxRecDepth 20000 in
theorem vX7_setSizes : zVi mX7_setSizes 7 4 := ⟨by decide, rfl, by decide, List.mem_of_getElem? (i := 425) (by decide +kernel), List.mem_of_getElem? (i := 426) (by decide +kernel), List.mem_of_getElem? (i := 60) (by decide +kernel), List.mem_of_getElem? (i := 427) rfl, ⟨by decide, by decide, by decide +kernel⟩⟩
set_option maxRecDepth 20000 in
theorem vX7_setLines : zVi mX7_setLines 7 4 := ⟨by decide, rfl, by decide, List.mem_of_getElem? (i := 429) (by decide +kernel), List.mem_of_getElem? (i := 430) (by decide +kernel), List.mem_of_getElem? (i := 60) (by decide +kernel), List.mem_of_getElem? (i := 431) rfl, ⟨by decide, by decide, by decide +kernel⟩⟩
set_option maxRecDepth 20000 in
theorem vX7_count : zVi mX7_count 7 1 := ⟨by decide, rfl, by decide, List.mem_of_getElem? (i := 433) (by decide +kernel), List.mem_of_getElem? (i := 434) (by decide +kernel), List.mem_of_getElem? (i := 60) (by decide +kernel), List.mem_of_getElem? (i := 435) rfl, ⟨by decide, by decide, by decide +kernel⟩⟩
set_option maxRecDepth 20000 in
theorem vX7_word : zVi mX7_word 7 2 := ⟨by decide, rfl, by decide, List.mem_of_getElem? (i := 437) (by decide +kernel), List.mem_of_getElem? (i := 438) (by decide +kernel), List.mem_of_getElem? (i := 60) (by decide +kernel), List.mem_of_getElem? (i := 439) rfl, ⟨by decide, by decide, by decide +kernel⟩⟩
set_option maxRecDepth 20000 in
theorem vX7_cost : zVi mX7_cost 7 1 := ⟨by decide, rfl, by decide, List.mem_of_getElem? (i := 441) (by decide +kernel), List.mem_of_getElem? (i := 442) (by decide +kernel), List.mem_of_getElem? (i := 60) (by decide +kernel), List.mem_of_getElem? (i := 443) rfl, ⟨by decide, by decide, by decide +kernel⟩⟩
set_option maxRecDepth 20000 in
theorem vX7_fit : zVi mX7_fit 7 0 := ⟨by decide, rfl, by decide, List.mem_of_getElem? (i := 534) (by decide +kernel), List.mem_of_getElem? (i := 535) (by decide +kernel), List.mem_of_getElem? (i := 60) (by decide +kernel), List.mem_of_getElem? (i := 536) rfl, ⟨by decide, by decide, by decide +kernel⟩⟩
set_option maxRecDepth 20000 in
theorem vX7_allowed : zVi mX7_allowed 7 1 := ⟨by decide, rfl, by decide, List.mem_of_getElem? (i := 546) (by decide +kernel), List.mem_of_getElem? (i := 547) (by decide +kernel), List.mem_of_getElem? (i := 60) (by decide +kernel), List.mem_of_getElem? (i := 548) rfl, ⟨by decide, by decide, by decide +kernel⟩⟩
set_option maxRecDepth 20000 in
theorem vX7_take : zVi mX7_take 7 1 := ⟨by decide, rfl, by decide, List.mem_of_getElem? (i := 554) (by decide +kernel), List.mem_of_getElem? (i := 555) (by decide +kernel), List.mem_of_getElem? (i := 60) (by decide +kernel), List.mem_of_getElem? (i := 556) rfl, ⟨by decide, by decide, by decide +kernel⟩⟩
set_option maxRecDepth 20000 in
theorem vX7_widestStep : zVi mX7_widestStep 7 1 := ⟨by decide, rfl, by decide, List.mem_of_getElem? (i := 607) (by decide +kernel), List.mem_of_getElem? (i := 608) (by decide +kernel), List.mem_of_getElem? (i := 60) (by decide +kernel), List.mem_of_getElem? (i := 609) rfl, ⟨by decide, by decide, by decide +kernel⟩⟩
set_option maxRecDepth 20000 in
theorem vX7_tightestLimit : zVi mX7_tightestLimit 7 0 := ⟨by decide, rfl, by decide, List.mem_of_getElem? (i := 611) (by decide +kernel), List.mem_of_getElem? (i := 612) (by decide +kernel), List.mem_of_getElem? (i := 60) (by decide +kernel), List.mem_of_getElem? (i := 613) rfl, ⟨by decide, by decide, by decide +kernel⟩⟩
set_option maxRecDepth 20000 in
theorem vX7_layout : zVi mX7_layout 7 1 := ⟨by decide, rfl, by decide, List.mem_of_getElem? (i := 615) (by decide +kernel), List.mem_of_getElem? (i := 616) (by decide +kernel), List.mem_of_getElem? (i := 60) (by decide +kernel), List.mem_of_getElem? (i := 617) rfl, ⟨by decide, by decide, by decide +kernel⟩⟩
set_option maxRecDepth 20000 in
theorem vX7_line : zVi mX7_line 7 2 := ⟨by decide, rfl, by decide, List.mem_of_getElem? (i := 619) (by decide +kernel), List.mem_of_getElem? (i := 620) (by decide +kernel), List.mem_of_getElem? (i := 60) (by decide +kernel), List.mem_of_getElem? (i := 621) rfl, ⟨by decide, by decide, by decide +kernel⟩⟩
set_option maxRecDepth 20000 in
theorem vX7_placed : zVi mX7_placed 7 2 := ⟨by decide, rfl, by decide, List.mem_of_getElem? (i := 623) (by decide +kernel), List.mem_of_getElem? (i := 624) (by decide +kernel), List.mem_of_getElem? (i := 60) (by decide +kernel), List.mem_of_getElem? (i := 625) rfl, ⟨by decide, by decide, by decide +kernel⟩⟩
set_option maxRecDepth 20000 in
theorem vX7_type : zVi mX7_type 7 1 := ⟨by decide, rfl, by decide, List.mem_of_getElem? (i := 627) (by decide +kernel), List.mem_of_getElem? (i := 628) (by decide +kernel), List.mem_of_getElem? (i := 60) (by decide +kernel), List.mem_of_getElem? (i := 629) rfl, ⟨by decide, by decide, by decide +kernel⟩⟩
set_option maxRecDepth 20000 in
theorem vX7_clearText : zVi mX7_clearText 7 0 := ⟨by decide, rfl, by decide, List.mem_of_getElem? (i := 631) (by decide +kernel), List.mem_of_getElem? (i := 632) (by decide +kernel), List.mem_of_getElem? (i := 60) (by decide +kernel), List.mem_of_getElem? (i := 633) rfl, ⟨by decide, by decide, by decide +kernel⟩⟩
set_option maxRecDepth 20000 in
theorem vX7_textFault : zVi mX7_textFault 7 0 := ⟨by decide, rfl, by decide, List.mem_of_getElem? (i := 635) (by decide +kernel), List.mem_of_getElem? (i := 636) (by decide +kernel), List.mem_of_getElem? (i := 60) (by decide +kernel), List.mem_of_getElem? (i := 637) rfl, ⟨by decide, by decide, by decide +kernel⟩⟩
set_option maxRecDepth 20000 in
theorem vX7_load : zVi mX7_load 7 0 := ⟨by decide, rfl, by decide, List.mem_of_getElem? (i := 671) (by decide +kernel), List.mem_of_getElem? (i := 672) (by decide +kernel), List.mem_of_getElem? (i := 60) (by decide +kernel), List.mem_of_getElem? (i := 673) rfl, ⟨by decide, by decide, by decide +kernel⟩⟩
set_option maxRecDepth 20000 in
theorem vX7_undo : zVi mX7_undo 7 0 := ⟨by decide, rfl, by decide, List.mem_of_getElem? (i := 676) (by decide +kernel), List.mem_of_getElem? (i := 677) (by decide +kernel), List.mem_of_getElem? (i := 60) (by decide +kernel), List.mem_of_getElem? (i := 678) rfl, ⟨by decide, by decide, by decide +kernel⟩⟩
set_option maxRecDepth 20000 in
theorem vX7_digest : zVi mX7_digest 7 0 := ⟨by decide, rfl, by decide, List.mem_of_getElem? (i := 680) (by decide +kernel), List.mem_of_getElem? (i := 681) (by decide +kernel), List.mem_of_getElem? (i := 60) (by decide +kernel), List.mem_of_getElem? (i := 682) rfl, ⟨by decide, by decide, by decide +kernel⟩⟩
set_option maxRecDepth 20000 in
theorem sX7_isIn : zSt mX7_isIn 3 := ⟨by decide, List.mem_of_getElem? (i := 295) (by decide +kernel), List.mem_of_getElem? (i := 60) (by decide +kernel), List.mem_of_getElem? (i := 296) rfl, ⟨by decide, by decide, by decide +kernel⟩⟩
set_option maxRecDepth 20000 in
theorem sX7_isBox : zSt mX7_isBox 4 := ⟨by decide, List.mem_of_getElem? (i := 298) (by decide +kernel), List.mem_of_getElem? (i := 60) (by decide +kernel), List.mem_of_getElem? (i := 299) rfl, ⟨by decide, by decide, by decide +kernel⟩⟩
set_option maxRecDepth 20000 in
theorem sX7_isBand : zSt mX7_isBand 2 := ⟨by decide, List.mem_of_getElem? (i := 382) (by decide +kernel), List.mem_of_getElem? (i := 60) (by decide +kernel), List.mem_of_getElem? (i := 383) rfl, ⟨by decide, by decide, by decide +kernel⟩⟩
set_option maxRecDepth 20000 in
theorem sX7_addAll : zSt mX7_addAll 3 := ⟨by decide, List.mem_of_getElem? (i := 688) (by decide +kernel), List.mem_of_getElem? (i := 60) (by decide +kernel), List.mem_of_getElem? (i := 689) rfl, ⟨by decide, by decide, by decide +kernel⟩⟩
set_option maxRecDepth 20000 in
theorem vX7_remember : zVi mX7_remember 7 0 := ⟨by decide, rfl, by decide, List.mem_of_getElem? (i := 302) (by decide +kernel), List.mem_of_getElem? (i := 0) (by decide +kernel), List.mem_of_getElem? (i := 60) (by decide +kernel), List.mem_of_getElem? (i := 303) rfl, ⟨by decide, by decide, by decide +kernel⟩⟩
set_option maxRecDepth 20000 in
theorem vX7_dropOldest : zVi mX7_dropOldest 7 0 := ⟨by decide, rfl, by decide, List.mem_of_getElem? (i := 306) (by decide +kernel), List.mem_of_getElem? (i := 1) (by decide +kernel), List.mem_of_getElem? (i := 60) (by decide +kernel), List.mem_of_getElem? (i := 307) rfl, ⟨by decide, by decide, by decide +kernel⟩⟩
set_option maxRecDepth 20000 in
theorem vX7_greatestBase : zVi mX7_greatestBase 7 1 := ⟨by decide, rfl, by decide, List.mem_of_getElem? (i := 539) (by decide +kernel), List.mem_of_getElem? (i := 20) (by decide +kernel), List.mem_of_getElem? (i := 60) (by decide +kernel), List.mem_of_getElem? (i := 540) rfl, ⟨by decide, by decide, by decide +kernel⟩⟩
set_option maxRecDepth 20000 in
theorem iX8_init : zIi mX8_init 0 := ⟨rfl, rfl, by decide, List.mem_of_getElem? (i := 693) (by decide +kernel), List.mem_of_getElem? (i := 68) (by decide +kernel), List.mem_of_getElem? (i := 694) rfl, ⟨by decide, by decide, by decide +kernel⟩⟩
set_option maxRecDepth 20000 in
theorem sX8_in : zSt mX8_in 3 := ⟨by decide, List.mem_of_getElem? (i := 762) (by decide +kernel), List.mem_of_getElem? (i := 68) (by decide +kernel), List.mem_of_getElem? (i := 763) rfl, ⟨by decide, by decide, by decide +kernel⟩⟩
set_option maxRecDepth 20000 in
theorem vX8_copies : zVi mX8_copies 8 2 := ⟨by decide, rfl, by decide, List.mem_of_getElem? (i := 770) (by decide +kernel), List.mem_of_getElem? (i := 31) (by decide +kernel), List.mem_of_getElem? (i := 68) (by decide +kernel), List.mem_of_getElem? (i := 771) rfl, ⟨by decide, by decide, by decide +kernel⟩⟩
set_option maxRecDepth 20000 in
theorem vX8_records : zVi mX8_records 8 0 := ⟨by decide, rfl, by decide, List.mem_of_getElem? (i := 766) (by decide +kernel), List.mem_of_getElem? (i := 30) (by decide +kernel), List.mem_of_getElem? (i := 68) (by decide +kernel), List.mem_of_getElem? (i := 767) rfl, ⟨by decide, by decide, by decide +kernel⟩⟩
set_option maxRecDepth 20000 in
theorem vX8_shapeOf : zVi mX8_shapeOf 8 2 := ⟨by decide, rfl, by decide, List.mem_of_getElem? (i := 782) (by decide +kernel), List.mem_of_getElem? (i := 33) (by decide +kernel), List.mem_of_getElem? (i := 68) (by decide +kernel), List.mem_of_getElem? (i := 783) rfl, ⟨by decide, by decide, by decide +kernel⟩⟩
set_option maxRecDepth 20000 in
theorem sX8_size : zSt mX8_size 1 := ⟨by decide, List.mem_of_getElem? (i := 797) (by decide +kernel), List.mem_of_getElem? (i := 68) (by decide +kernel), List.mem_of_getElem? (i := 798) rfl, ⟨by decide, by decide, by decide +kernel⟩⟩
set_option maxRecDepth 20000 in
theorem vX8_belongs : zVi mX8_belongs 8 3 := ⟨by decide, rfl, by decide, List.mem_of_getElem? (i := 794) (by decide +kernel), List.mem_of_getElem? (i := 36) (by decide +kernel), List.mem_of_getElem? (i := 68) (by decide +kernel), List.mem_of_getElem? (i := 795) rfl, ⟨by decide, by decide, by decide +kernel⟩⟩
set_option maxRecDepth 20000 in
theorem vX8_free : zVi mX8_free 8 2 := ⟨by decide, rfl, by decide, List.mem_of_getElem? (i := 790) (by decide +kernel), List.mem_of_getElem? (i := 35) (by decide +kernel), List.mem_of_getElem? (i := 68) (by decide +kernel), List.mem_of_getElem? (i := 791) rfl, ⟨by decide, by decide, by decide +kernel⟩⟩
set_option maxRecDepth 20000 in
theorem vX8_freeCells : zVi mX8_freeCells 8 0 := ⟨by decide, rfl, by decide, List.mem_of_getElem? (i := 786) (by decide +kernel), List.mem_of_getElem? (i := 34) (by decide +kernel), List.mem_of_getElem? (i := 68) (by decide +kernel), List.mem_of_getElem? (i := 787) rfl, ⟨by decide, by decide, by decide +kernel⟩⟩
set_option maxRecDepth 20000 in
theorem vX8_isShape : zVi mX8_isShape 8 1 := ⟨by decide, rfl, by decide, List.mem_of_getElem? (i := 778) (by decide +kernel), List.mem_of_getElem? (i := 32) (by decide +kernel), List.mem_of_getElem? (i := 68) (by decide +kernel), List.mem_of_getElem? (i := 779) rfl, ⟨by decide, by decide, by decide +kernel⟩⟩
set_option maxRecDepth 20000 in
theorem vX8_addShape : zVi mX8_addShape 8 5 := ⟨by decide, rfl, by decide, List.mem_of_getElem? (i := 758) (by decide +kernel), List.mem_of_getElem? (i := 759) (by decide +kernel), List.mem_of_getElem? (i := 68) (by decide +kernel), List.mem_of_getElem? (i := 760) rfl, ⟨by decide, by decide, by decide +kernel⟩⟩
set_option maxRecDepth 20000 in
theorem vX8_moveShape : zVi mX8_moveShape 8 3 := ⟨by decide, rfl, by decide, List.mem_of_getElem? (i := 773) (by decide +kernel), List.mem_of_getElem? (i := 774) (by decide +kernel), List.mem_of_getElem? (i := 68) (by decide +kernel), List.mem_of_getElem? (i := 775) rfl, ⟨by decide, by decide, by decide +kernel⟩⟩
set_option maxRecDepth 20000 in
theorem vX8_removeShape : zVi mX8_removeShape 8 1 := ⟨by decide, rfl, by decide, List.mem_of_getElem? (i := 800) (by decide +kernel), List.mem_of_getElem? (i := 801) (by decide +kernel), List.mem_of_getElem? (i := 68) (by decide +kernel), List.mem_of_getElem? (i := 802) rfl, ⟨by decide, by decide, by decide +kernel⟩⟩
set_option maxRecDepth 20000 in
theorem vX8_isFree : zVi mX8_isFree 8 2 := ⟨by decide, rfl, by decide, List.mem_of_getElem? (i := 804) (by decide +kernel), List.mem_of_getElem? (i := 805) (by decide +kernel), List.mem_of_getElem? (i := 68) (by decide +kernel), List.mem_of_getElem? (i := 806) rfl, ⟨by decide, by decide, by decide +kernel⟩⟩
set_option maxRecDepth 20000 in
theorem vX8_findsSpans : zVi mX8_findsSpans 8 0 := ⟨by decide, rfl, by decide, List.mem_of_getElem? (i := 813) (by decide +kernel), List.mem_of_getElem? (i := 37) (by decide +kernel), List.mem_of_getElem? (i := 68) (by decide +kernel), List.mem_of_getElem? (i := 814) rfl, ⟨by decide, by decide, by decide +kernel⟩⟩
set_option maxRecDepth 20000 in
theorem vX8_notesSpan : zVi mX8_notesSpan 8 2 := ⟨by decide, rfl, by decide, List.mem_of_getElem? (i := 817) (by decide +kernel), List.mem_of_getElem? (i := 38) (by decide +kernel), List.mem_of_getElem? (i := 68) (by decide +kernel), List.mem_of_getElem? (i := 818) rfl, ⟨by decide, by decide, by decide +kernel⟩⟩
set_option maxRecDepth 20000 in
theorem vX8_span : zVi mX8_span 8 3 := ⟨by decide, rfl, by decide, List.mem_of_getElem? (i := 808) (by decide +kernel), List.mem_of_getElem? (i := 809) (by decide +kernel), List.mem_of_getElem? (i := 68) (by decide +kernel), List.mem_of_getElem? (i := 810) rfl, ⟨by decide, by decide, by decide +kernel⟩⟩
set_option maxRecDepth 20000 in
theorem vX8_of : zVi mX8_of 8 2 := ⟨by decide, rfl, by decide, List.mem_of_getElem? (i := 837) (by decide +kernel), List.mem_of_getElem? (i := 41) (by decide +kernel), List.mem_of_getElem? (i := 68) (by decide +kernel), List.mem_of_getElem? (i := 838) rfl, ⟨by decide, by decide, by decide +kernel⟩⟩
set_option maxRecDepth 20000 in
theorem vX8_isWord : zVi mX8_isWord 8 1 := ⟨by decide, rfl, by decide, List.mem_of_getElem? (i := 833) (by decide +kernel), List.mem_of_getElem? (i := 40) (by decide +kernel), List.mem_of_getElem? (i := 68) (by decide +kernel), List.mem_of_getElem? (i := 834) rfl, ⟨by decide, by decide, by decide +kernel⟩⟩
set_option maxRecDepth 20000 in
theorem vX8_becomes : zVi mX8_becomes 8 4 := ⟨by decide, rfl, by decide, List.mem_of_getElem? (i := 825) (by decide +kernel), List.mem_of_getElem? (i := 39) (by decide +kernel), List.mem_of_getElem? (i := 68) (by decide +kernel), List.mem_of_getElem? (i := 826) rfl, ⟨by decide, by decide, by decide +kernel⟩⟩
set_option maxRecDepth 20000 in
theorem vX8_addWord : zVi mX8_addWord 8 2 := ⟨by decide, rfl, by decide, List.mem_of_getElem? (i := 820) (by decide +kernel), List.mem_of_getElem? (i := 821) (by decide +kernel), List.mem_of_getElem? (i := 68) (by decide +kernel), List.mem_of_getElem? (i := 822) rfl, ⟨by decide, by decide, by decide +kernel⟩⟩
set_option maxRecDepth 20000 in
theorem vX8_setWord : zVi mX8_setWord 8 4 := ⟨by decide, rfl, by decide, List.mem_of_getElem? (i := 828) (by decide +kernel), List.mem_of_getElem? (i := 829) (by decide +kernel), List.mem_of_getElem? (i := 68) (by decide +kernel), List.mem_of_getElem? (i := 830) rfl, ⟨by decide, by decide, by decide +kernel⟩⟩
set_option maxRecDepth 20000 in
theorem vX8_clearWords : zVi mX8_clearWords 8 0 := ⟨by decide, rfl, by decide, List.mem_of_getElem? (i := 840) (by decide +kernel), List.mem_of_getElem? (i := 841) (by decide +kernel), List.mem_of_getElem? (i := 68) (by decide +kernel), List.mem_of_getElem? (i := 842) rfl, ⟨by decide, by decide, by decide +kernel⟩⟩
set_option maxRecDepth 20000 in
theorem vX8_setSizes : zVi mX8_setSizes 8 4 := ⟨by decide, rfl, by decide, List.mem_of_getElem? (i := 844) (by decide +kernel), List.mem_of_getElem? (i := 845) (by decide +kernel), List.mem_of_getElem? (i := 68) (by decide +kernel), List.mem_of_getElem? (i := 846) rfl, ⟨by decide, by decide, by decide +kernel⟩⟩
set_option maxRecDepth 20000 in
theorem vX8_setLines : zVi mX8_setLines 8 4 := ⟨by decide, rfl, by decide, List.mem_of_getElem? (i := 848) (by decide +kernel), List.mem_of_getElem? (i := 849) (by decide +kernel), List.mem_of_getElem? (i := 68) (by decide +kernel), List.mem_of_getElem? (i := 850) rfl, ⟨by decide, by decide, by decide +kernel⟩⟩
set_option maxRecDepth 20000 in
theorem vX8_count : zVi mX8_count 8 1 := ⟨by decide, rfl, by decide, List.mem_of_getElem? (i := 852) (by decide +kernel), List.mem_of_getElem? (i := 853) (by decide +kernel), List.mem_of_getElem? (i := 68) (by decide +kernel), List.mem_of_getElem? (i := 854) rfl, ⟨by decide, by decide, by decide +kernel⟩⟩
set_option maxRecDepth 20000 in
theorem vX8_word : zVi mX8_word 8 2 := ⟨by decide, rfl, by decide, List.mem_of_getElem? (i := 856) (by decide +kernel), List.mem_of_getElem? (i := 857) (by decide +kernel), List.mem_of_getElem? (i := 68) (by decide +kernel), List.mem_of_getElem? (i := 858) rfl, ⟨by decide, by decide, by decide +kernel⟩⟩
set_option maxRecDepth 20000 in
theorem vX8_sizeOf : zVi mX8_sizeOf 8 2 := ⟨by decide, rfl, by decide, List.mem_of_getElem? (i := 873) (by decide +kernel), List.mem_of_getElem? (i := 44) (by decide +kernel), List.mem_of_getElem? (i := 68) (by decide +kernel), List.mem_of_getElem? (i := 874) rfl, ⟨by decide, by decide, by decide +kernel⟩⟩
set_option maxRecDepth 20000 in
theorem vX8_isLeast : zVi mX8_isLeast 8 1 := ⟨by decide, rfl, by decide, List.mem_of_getElem? (i := 869) (by decide +kernel), List.mem_of_getElem? (i := 43) (by decide +kernel), List.mem_of_getElem? (i := 68) (by decide +kernel), List.mem_of_getElem? (i := 870) rfl, ⟨by decide, by decide, by decide +kernel⟩⟩
set_option maxRecDepth 20000 in
theorem vX8_breaks : zVi mX8_breaks 8 2 := ⟨by decide, rfl, by decide, List.mem_of_getElem? (i := 884) (by decide +kernel), List.mem_of_getElem? (i := 46) (by decide +kernel), List.mem_of_getElem? (i := 68) (by decide +kernel), List.mem_of_getElem? (i := 885) rfl, ⟨by decide, by decide, by decide +kernel⟩⟩
set_option maxRecDepth 20000 in
theorem sX8_least : zSt mX8_least 2 := ⟨by decide, List.mem_of_getElem? (i := 880) (by decide +kernel), List.mem_of_getElem? (i := 68) (by decide +kernel), List.mem_of_getElem? (i := 881) rfl, ⟨by decide, by decide, by decide +kernel⟩⟩
set_option maxRecDepth 20000 in
theorem vX8_lays : zVi mX8_lays 8 2 := ⟨by decide, rfl, by decide, List.mem_of_getElem? (i := 877) (by decide +kernel), List.mem_of_getElem? (i := 45) (by decide +kernel), List.mem_of_getElem? (i := 68) (by decide +kernel), List.mem_of_getElem? (i := 878) rfl, ⟨by decide, by decide, by decide +kernel⟩⟩
set_option maxRecDepth 20000 in
theorem vX8_places : zVi mX8_places 8 2 := ⟨by decide, rfl, by decide, List.mem_of_getElem? (i := 888) (by decide +kernel), List.mem_of_getElem? (i := 47) (by decide +kernel), List.mem_of_getElem? (i := 68) (by decide +kernel), List.mem_of_getElem? (i := 889) rfl, ⟨by decide, by decide, by decide +kernel⟩⟩
set_option maxRecDepth 20000 in
theorem vX8_hasGap : zVi mX8_hasGap 8 1 := ⟨by decide, rfl, by decide, List.mem_of_getElem? (i := 896) (by decide +kernel), List.mem_of_getElem? (i := 49) (by decide +kernel), List.mem_of_getElem? (i := 68) (by decide +kernel), List.mem_of_getElem? (i := 897) rfl, ⟨by decide, by decide, by decide +kernel⟩⟩
set_option maxRecDepth 20000 in
theorem vX8_gapFrom : zVi mX8_gapFrom 8 1 := ⟨by decide, rfl, by decide, List.mem_of_getElem? (i := 904) (by decide +kernel), List.mem_of_getElem? (i := 51) (by decide +kernel), List.mem_of_getElem? (i := 68) (by decide +kernel), List.mem_of_getElem? (i := 905) rfl, ⟨by decide, by decide, by decide +kernel⟩⟩
set_option maxRecDepth 20000 in
theorem vX8_touch : zVi mX8_touch 8 2 := ⟨by decide, rfl, by decide, List.mem_of_getElem? (i := 900) (by decide +kernel), List.mem_of_getElem? (i := 50) (by decide +kernel), List.mem_of_getElem? (i := 68) (by decide +kernel), List.mem_of_getElem? (i := 901) rfl, ⟨by decide, by decide, by decide +kernel⟩⟩
set_option maxRecDepth 20000 in
theorem vX8_chainsUp : zVi mX8_chainsUp 8 2 := ⟨by decide, rfl, by decide, List.mem_of_getElem? (i := 892) (by decide +kernel), List.mem_of_getElem? (i := 48) (by decide +kernel), List.mem_of_getElem? (i := 68) (by decide +kernel), List.mem_of_getElem? (i := 893) rfl, ⟨by decide, by decide, by decide +kernel⟩⟩
set_option maxRecDepth 20000 in
theorem vX8_chains : zVi mX8_chains 8 0 := ⟨by decide, rfl, by decide, List.mem_of_getElem? (i := 924) (by decide +kernel), List.mem_of_getElem? (i := 53) (by decide +kernel), List.mem_of_getElem? (i := 68) (by decide +kernel), List.mem_of_getElem? (i := 925) rfl, ⟨by decide, by decide, by decide +kernel⟩⟩
set_option maxRecDepth 20000 in
theorem vX8_finds : zVi mX8_finds 8 1 := ⟨by decide, rfl, by decide, List.mem_of_getElem? (i := 865) (by decide +kernel), List.mem_of_getElem? (i := 42) (by decide +kernel), List.mem_of_getElem? (i := 68) (by decide +kernel), List.mem_of_getElem? (i := 866) rfl, ⟨by decide, by decide, by decide +kernel⟩⟩
set_option maxRecDepth 20000 in
theorem vX8_fits : zVi mX8_fits 8 0 := ⟨by decide, rfl, by decide, List.mem_of_getElem? (i := 912) (by decide +kernel), List.mem_of_getElem? (i := 52) (by decide +kernel), List.mem_of_getElem? (i := 68) (by decide +kernel), List.mem_of_getElem? (i := 913) rfl, ⟨by decide, by decide, by decide +kernel⟩⟩
set_option maxRecDepth 20000 in
theorem vX8_cost : zVi mX8_cost 8 1 := ⟨by decide, rfl, by decide, List.mem_of_getElem? (i := 860) (by decide +kernel), List.mem_of_getElem? (i := 861) (by decide +kernel), List.mem_of_getElem? (i := 68) (by decide +kernel), List.mem_of_getElem? (i := 862) rfl, ⟨by decide, by decide, by decide +kernel⟩⟩
set_option maxRecDepth 20000 in
theorem vX8_fit : zVi mX8_fit 8 0 := ⟨by decide, rfl, by decide, List.mem_of_getElem? (i := 907) (by decide +kernel), List.mem_of_getElem? (i := 908) (by decide +kernel), List.mem_of_getElem? (i := 68) (by decide +kernel), List.mem_of_getElem? (i := 909) rfl, ⟨by decide, by decide, by decide +kernel⟩⟩
set_option maxRecDepth 20000 in
theorem vX8_allowed : zVi mX8_allowed 8 1 := ⟨by decide, rfl, by decide, List.mem_of_getElem? (i := 915) (by decide +kernel), List.mem_of_getElem? (i := 916) (by decide +kernel), List.mem_of_getElem? (i := 68) (by decide +kernel), List.mem_of_getElem? (i := 917) rfl, ⟨by decide, by decide, by decide +kernel⟩⟩
set_option maxRecDepth 20000 in
theorem vX8_take : zVi mX8_take 8 1 := ⟨by decide, rfl, by decide, List.mem_of_getElem? (i := 919) (by decide +kernel), List.mem_of_getElem? (i := 920) (by decide +kernel), List.mem_of_getElem? (i := 68) (by decide +kernel), List.mem_of_getElem? (i := 921) rfl, ⟨by decide, by decide, by decide +kernel⟩⟩
set_option maxRecDepth 20000 in
theorem vX8_widestStep : zVi mX8_widestStep 8 1 := ⟨by decide, rfl, by decide, List.mem_of_getElem? (i := 927) (by decide +kernel), List.mem_of_getElem? (i := 928) (by decide +kernel), List.mem_of_getElem? (i := 68) (by decide +kernel), List.mem_of_getElem? (i := 929) rfl, ⟨by decide, by decide, by decide +kernel⟩⟩
set_option maxRecDepth 20000 in
theorem vX8_tightestLimit : zVi mX8_tightestLimit 8 0 := ⟨by decide, rfl, by decide, List.mem_of_getElem? (i := 931) (by decide +kernel), List.mem_of_getElem? (i := 932) (by decide +kernel), List.mem_of_getElem? (i := 68) (by decide +kernel), List.mem_of_getElem? (i := 933) rfl, ⟨by decide, by decide, by decide +kernel⟩⟩
set_option maxRecDepth 20000 in
theorem vX8_layout : zVi mX8_layout 8 1 := ⟨by decide, rfl, by decide, List.mem_of_getElem? (i := 935) (by decide +kernel), List.mem_of_getElem? (i := 936) (by decide +kernel), List.mem_of_getElem? (i := 68) (by decide +kernel), List.mem_of_getElem? (i := 937) rfl, ⟨by decide, by decide, by decide +kernel⟩⟩
set_option maxRecDepth 20000 in
theorem vX8_line : zVi mX8_line 8 2 := ⟨by decide, rfl, by decide, List.mem_of_getElem? (i := 939) (by decide +kernel), List.mem_of_getElem? (i := 940) (by decide +kernel), List.mem_of_getElem? (i := 68) (by decide +kernel), List.mem_of_getElem? (i := 941) rfl, ⟨by decide, by decide, by decide +kernel⟩⟩
set_option maxRecDepth 20000 in
theorem vX8_placed : zVi mX8_placed 8 2 := ⟨by decide, rfl, by decide, List.mem_of_getElem? (i := 943) (by decide +kernel), List.mem_of_getElem? (i := 944) (by decide +kernel), List.mem_of_getElem? (i := 68) (by decide +kernel), List.mem_of_getElem? (i := 945) rfl, ⟨by decide, by decide, by decide +kernel⟩⟩
set_option maxRecDepth 20000 in
theorem vX8_type : zVi mX8_type 8 1 := ⟨by decide, rfl, by decide, List.mem_of_getElem? (i := 947) (by decide +kernel), List.mem_of_getElem? (i := 948) (by decide +kernel), List.mem_of_getElem? (i := 68) (by decide +kernel), List.mem_of_getElem? (i := 949) rfl, ⟨by decide, by decide, by decide +kernel⟩⟩
set_option maxRecDepth 20000 in
theorem vX8_clearText : zVi mX8_clearText 8 0 := ⟨by decide, rfl, by decide, List.mem_of_getElem? (i := 951) (by decide +kernel), List.mem_of_getElem? (i := 952) (by decide +kernel), List.mem_of_getElem? (i := 68) (by decide +kernel), List.mem_of_getElem? (i := 953) rfl, ⟨by decide, by decide, by decide +kernel⟩⟩
set_option maxRecDepth 20000 in
theorem vX8_isLetter : zVi mX8_isLetter 8 0 := ⟨by decide, rfl, by decide, List.mem_of_getElem? (i := 972) (by decide +kernel), List.mem_of_getElem? (i := 57) (by decide +kernel), List.mem_of_getElem? (i := 68) (by decide +kernel), List.mem_of_getElem? (i := 973) rfl, ⟨by decide, by decide, by decide +kernel⟩⟩
set_option maxRecDepth 20000 in
theorem vX8_isSign : zVi mX8_isSign 8 1 := ⟨by decide, rfl, by decide, List.mem_of_getElem? (i := 968) (by decide +kernel), List.mem_of_getElem? (i := 56) (by decide +kernel), List.mem_of_getElem? (i := 68) (by decide +kernel), List.mem_of_getElem? (i := 969) rfl, ⟨by decide, by decide, by decide +kernel⟩⟩
set_option maxRecDepth 20000 in
theorem vX8_blanks : zVi mX8_blanks 8 0 := ⟨by decide, rfl, by decide, List.mem_of_getElem? (i := 964) (by decide +kernel), List.mem_of_getElem? (i := 55) (by decide +kernel), List.mem_of_getElem? (i := 68) (by decide +kernel), List.mem_of_getElem? (i := 965) rfl, ⟨by decide, by decide, by decide +kernel⟩⟩
set_option maxRecDepth 20000 in
theorem vX8_readsText : zVi mX8_readsText 8 0 := ⟨by decide, rfl, by decide, List.mem_of_getElem? (i := 960) (by decide +kernel), List.mem_of_getElem? (i := 54) (by decide +kernel), List.mem_of_getElem? (i := 68) (by decide +kernel), List.mem_of_getElem? (i := 961) rfl, ⟨by decide, by decide, by decide +kernel⟩⟩
set_option maxRecDepth 20000 in
theorem vX8_textFault : zVi mX8_textFault 8 0 := ⟨by decide, rfl, by decide, List.mem_of_getElem? (i := 955) (by decide +kernel), List.mem_of_getElem? (i := 956) (by decide +kernel), List.mem_of_getElem? (i := 68) (by decide +kernel), List.mem_of_getElem? (i := 957) rfl, ⟨by decide, by decide, by decide +kernel⟩⟩
set_option maxRecDepth 20000 in
theorem vX8_load : zVi mX8_load 8 0 := ⟨by decide, rfl, by decide, List.mem_of_getElem? (i := 975) (by decide +kernel), List.mem_of_getElem? (i := 976) (by decide +kernel), List.mem_of_getElem? (i := 68) (by decide +kernel), List.mem_of_getElem? (i := 977) rfl, ⟨by decide, by decide, by decide +kernel⟩⟩
set_option maxRecDepth 20000 in
theorem vX8_undo : zVi mX8_undo 8 0 := ⟨by decide, rfl, by decide, List.mem_of_getElem? (i := 979) (by decide +kernel), List.mem_of_getElem? (i := 980) (by decide +kernel), List.mem_of_getElem? (i := 68) (by decide +kernel), List.mem_of_getElem? (i := 981) rfl, ⟨by decide, by decide, by decide +kernel⟩⟩
set_option maxRecDepth 20000 in
theorem vX8_note : zVi mX8_note 8 1 := ⟨by decide, rfl, by decide, List.mem_of_getElem? (i := 990) (by decide +kernel), List.mem_of_getElem? (i := 58) (by decide +kernel), List.mem_of_getElem? (i := 68) (by decide +kernel), List.mem_of_getElem? (i := 991) rfl, ⟨by decide, by decide, by decide +kernel⟩⟩
set_option maxRecDepth 20000 in
theorem vX8_digest : zVi mX8_digest 8 0 := ⟨by decide, rfl, by decide, List.mem_of_getElem? (i := 983) (by decide +kernel), List.mem_of_getElem? (i := 984) (by decide +kernel), List.mem_of_getElem? (i := 68) (by decide +kernel), List.mem_of_getElem? (i := 985) rfl, ⟨by decide, by decide, by decide +kernel⟩⟩
set_option maxRecDepth 20000 in
theorem sJ13_bitCount_95d88 : zSt mJ13_bitCount_95d88 1 := ⟨by decide, List.mem_of_getElem? (i := 356) (by decide +kernel), List.mem_of_getElem? (i := 71) (by decide +kernel), List.mem_of_getElem? (i := 357) rfl, ⟨by decide, by decide, by decide +kernel⟩⟩
set_option maxRecDepth 20000 in
theorem sJ7_fill_53178 : zSt mJ7_fill_53178 2 := ⟨by decide, List.mem_of_getElem? (i := 111) (by decide +kernel), List.mem_of_getElem? (i := 63) (by decide +kernel), List.mem_of_getElem? (i := 112) rfl, ⟨by decide, by decide, by decide +kernel⟩⟩
theorem lL_9 : Cond.methodLink RL 9 yX7_init ∈ lw_tbl := List.mem_of_getElem? (i := 75) (by decide +kernel)
theorem lX7_1 : Cond.methodLink RX7 1 objectInit ∈ lw_tbl := List.mem_of_getElem? (i := 78) (by decide +kernel)
theorem lX7_9 : Cond.methodLink RX7 9 yX5_init ∈ lw_tbl := List.mem_of_getElem? (i := 83) (by decide +kernel)
theorem lX5_3 : Cond.methodLink RX5 3 objectInit ∈ lw_tbl := List.mem_of_getElem? (i := 86) (by decide +kernel)
theorem lX1_3 : Cond.methodLink RX1 3 objectInit ∈ lw_tbl := List.mem_of_getElem? (i := 92) (by decide +kernel)
theorem lX5_33 : Cond.methodLink RX5 33 yJ7_fill_53178 ∈ lw_tbl := List.mem_of_getElem? (i := 110) (by decide +kernel)
theorem lX6_3 : Cond.methodLink RX6 3 objectInit ∈ lw_tbl := List.mem_of_getElem? (i := 144) (by decide +kernel)
theorem lX4_3 : Cond.methodLink RX4 3 objectInit ∈ lw_tbl := List.mem_of_getElem? (i := 162) (by decide +kernel)
theorem lX0_3 : Cond.methodLink RX0 3 objectInit ∈ lw_tbl := List.mem_of_getElem? (i := 168) (by decide +kernel)
theorem lX3_3 : Cond.methodLink RX3 3 objectInit ∈ lw_tbl := List.mem_of_getElem? (i := 184) (by decide +kernel)
theorem lL_13 : Cond.methodLink RL 13 yX7_addShape ∈ lw_tbl := List.mem_of_getElem? (i := 290) (by decide +kernel)
theorem lX7_45 : Cond.methodLink RX7 45 yX7_isIn ∈ lw_tbl := List.mem_of_getElem? (i := 294) (by decide +kernel)
theorem lX7_49 : Cond.methodLink RX7 49 yX7_isBox ∈ lw_tbl := List.mem_of_getElem? (i := 297) (by decide +kernel)
theorem lX7_62 : Cond.methodLink RX7 62 yX7_remember ∈ lw_tbl := List.mem_of_getElem? (i := 300) (by decide +kernel)
theorem lX7_191 : Cond.methodLink RX7 191 yX7_dropOldest ∈ lw_tbl := List.mem_of_getElem? (i := 304) (by decide +kernel)
theorem lX7_172 : Cond.methodLink RX7 172 yX5_copyFrom ∈ lw_tbl := List.mem_of_getElem? (i := 308) (by decide +kernel)
theorem lX5_39 : Cond.methodLink RX5 39 yX1_copyFrom ∈ lw_tbl := List.mem_of_getElem? (i := 312) (by decide +kernel)
theorem lX1_26 : zAc RX1 26 := ⟨List.mem_of_getElem? (i := 316) (by decide +kernel), List.mem_of_getElem? (i := 318) (by decide +kernel), List.mem_of_getElem? (i := 317) (by decide +kernel), List.mem_of_getElem? (i := 69) (by decide +kernel)⟩
theorem lX5_43 : zAc RX5 43 := ⟨List.mem_of_getElem? (i := 319) (by decide +kernel), List.mem_of_getElem? (i := 318) (by decide +kernel), List.mem_of_getElem? (i := 317) (by decide +kernel), List.mem_of_getElem? (i := 69) (by decide +kernel)⟩
theorem lX7_65 : Cond.methodLink RX7 65 yX1_append ∈ lw_tbl := List.mem_of_getElem? (i := 320) (by decide +kernel)
theorem lX1_32 : Cond.methodLink RX1 32 yX1_toggle ∈ lw_tbl := List.mem_of_getElem? (i := 324) (by decide +kernel)
theorem lX1_46 : Cond.methodLink RX1 46 yX1_columnsOf ∈ lw_tbl := List.mem_of_getElem? (i := 328) (by decide +kernel)
theorem lX1_50 : zMath Lib.Math.abs.name Lib.Math.abs.code 1 RX1 50 := ⟨List.mem_of_getElem? (i := 332) (by decide +kernel), List.mem_of_getElem? (i := 333) (by decide +kernel), List.mem_of_getElem? (i := 70) (by decide +kernel), List.mem_of_getElem? (i := 334) (by decide +kernel)⟩
theorem lX1_56 : Cond.methodLink RX1 56 yX1_belongs ∈ lw_tbl := List.mem_of_getElem? (i := 335) (by decide +kernel)
theorem lL_18 : Cond.methodLink RL 18 yX7_moveShape ∈ lw_tbl := List.mem_of_getElem? (i := 338) (by decide +kernel)
theorem lX7_69 : Cond.methodLink RX7 69 yX1_canShift ∈ lw_tbl := List.mem_of_getElem? (i := 342) (by decide +kernel)
theorem lX7_72 : Cond.methodLink RX7 72 yX1_shift ∈ lw_tbl := List.mem_of_getElem? (i := 347) (by decide +kernel)
theorem lX7_76 : Cond.methodLink RX7 76 yX1_freeCells ∈ lw_tbl := List.mem_of_getElem? (i := 351) (by decide +kernel)
theorem lX1_40 : Cond.methodLink RX1 40 yJ13_bitCount_95d88 ∈ lw_tbl := List.mem_of_getElem? (i := 355) (by decide +kernel)
theorem lL_23 : Cond.methodLink RL 23 yX7_removeShape ∈ lw_tbl := List.mem_of_getElem? (i := 361) (by decide +kernel)
theorem lX7_80 : Cond.methodLink RX7 80 yX1_drop ∈ lw_tbl := List.mem_of_getElem? (i := 365) (by decide +kernel)
theorem lL_28 : Cond.methodLink RL 28 yX7_isFree ∈ lw_tbl := List.mem_of_getElem? (i := 369) (by decide +kernel)
theorem lX7_84 : Cond.methodLink RX7 84 yX1_isFreeAt ∈ lw_tbl := List.mem_of_getElem? (i := 373) (by decide +kernel)
theorem lL_33 : Cond.methodLink RL 33 yX7_span ∈ lw_tbl := List.mem_of_getElem? (i := 377) (by decide +kernel)
theorem lX7_88 : Cond.methodLink RX7 88 yX7_isBand ∈ lw_tbl := List.mem_of_getElem? (i := 381) (by decide +kernel)
theorem lX7_95 : Cond.methodLink RX7 95 yX0_learn ∈ lw_tbl := List.mem_of_getElem? (i := 384) (by decide +kernel)
theorem lX0_27 : Cond.methodLink RX0 27 yX1_freeColumns ∈ lw_tbl := List.mem_of_getElem? (i := 388) (by decide +kernel)
theorem lX0_31 : Cond.methodLink RX0 31 yX0_findSpan ∈ lw_tbl := List.mem_of_getElem? (i := 392) (by decide +kernel)
theorem lX7_101 : Cond.methodLink RX7 101 yX0_lengthOf ∈ lw_tbl := List.mem_of_getElem? (i := 396) (by decide +kernel)
theorem lX7_105 : Cond.methodLink RX7 105 yX0_firstOf ∈ lw_tbl := List.mem_of_getElem? (i := 400) (by decide +kernel)
theorem lL_37 : Cond.methodLink RL 37 yX7_addWord ∈ lw_tbl := List.mem_of_getElem? (i := 404) (by decide +kernel)
theorem lX7_111 : Cond.methodLink RX7 111 yX5_putWord ∈ lw_tbl := List.mem_of_getElem? (i := 408) (by decide +kernel)
theorem lL_41 : Cond.methodLink RL 41 yX7_setWord ∈ lw_tbl := List.mem_of_getElem? (i := 412) (by decide +kernel)
theorem lX7_115 : Cond.methodLink RX7 115 yX5_partOfWord ∈ lw_tbl := List.mem_of_getElem? (i := 416) (by decide +kernel)
theorem lL_46 : Cond.methodLink RL 46 yX7_clearWords ∈ lw_tbl := List.mem_of_getElem? (i := 420) (by decide +kernel)
theorem lL_51 : Cond.methodLink RL 51 yX7_setSizes ∈ lw_tbl := List.mem_of_getElem? (i := 424) (by decide +kernel)
theorem lL_56 : Cond.methodLink RL 56 yX7_setLines ∈ lw_tbl := List.mem_of_getElem? (i := 428) (by decide +kernel)
theorem lL_60 : Cond.methodLink RL 60 yX7_count ∈ lw_tbl := List.mem_of_getElem? (i := 432) (by decide +kernel)
theorem lL_64 : Cond.methodLink RL 64 yX7_word ∈ lw_tbl := List.mem_of_getElem? (i := 436) (by decide +kernel)
theorem lL_68 : Cond.methodLink RL 68 yX7_cost ∈ lw_tbl := List.mem_of_getElem? (i := 440) (by decide +kernel)
theorem lX7_125 : Cond.methodLink RX7 125 yX4_findBest ∈ lw_tbl := List.mem_of_getElem? (i := 444) (by decide +kernel)
theorem lX4_47 : Cond.methodLink RX4 47 yX4_prepare ∈ lw_tbl := List.mem_of_getElem? (i := 448) (by decide +kernel)
theorem lX4_70 : Cond.methodLink RX4 70 yX3_measure ∈ lw_tbl := List.mem_of_getElem? (i := 452) (by decide +kernel)
theorem lX3_37 : Cond.methodLink RX3 37 yX5_partOfWord ∈ lw_tbl := List.mem_of_getElem? (i := 456) (by decide +kernel)
theorem lX3_44 : zMath Lib.Math.min.name Lib.Math.min.code 2 RX3 44 := ⟨List.mem_of_getElem? (i := 457) (by decide +kernel), List.mem_of_getElem? (i := 458) (by decide +kernel), List.mem_of_getElem? (i := 70) (by decide +kernel), List.mem_of_getElem? (i := 459) (by decide +kernel)⟩
theorem lX3_49 : Cond.methodLink RX3 49 yX3_findLastEnds ∈ lw_tbl := List.mem_of_getElem? (i := 460) (by decide +kernel)
theorem lX3_53 : Cond.methodLink RX3 53 yX3_measureLines ∈ lw_tbl := List.mem_of_getElem? (i := 464) (by decide +kernel)
theorem lX3_56 : zMath Lib.Math.max.name Lib.Math.max.code 2 RX3 56 := ⟨List.mem_of_getElem? (i := 468) (by decide +kernel), List.mem_of_getElem? (i := 469) (by decide +kernel), List.mem_of_getElem? (i := 70) (by decide +kernel), List.mem_of_getElem? (i := 470) (by decide +kernel)⟩
theorem lX4_96 : Cond.methodLink RX4 96 yX0_learn ∈ lw_tbl := List.mem_of_getElem? (i := 471) (by decide +kernel)
theorem lX4_100 : Cond.methodLink RX4 100 yX4_findLeastCosts ∈ lw_tbl := List.mem_of_getElem? (i := 472) (by decide +kernel)
theorem lX4_118 : Cond.methodLink RX4 118 yX4_findLeastCost ∈ lw_tbl := List.mem_of_getElem? (i := 476) (by decide +kernel)
theorem lX4_124 : Cond.methodLink RX4 124 yX4_slackOf ∈ lw_tbl := List.mem_of_getElem? (i := 480) (by decide +kernel)
theorem lX4_131 : Cond.methodLink RX4 131 yX3_heightOf ∈ lw_tbl := List.mem_of_getElem? (i := 484) (by decide +kernel)
theorem lX4_134 : Cond.methodLink RX4 134 yX0_lengthOf ∈ lw_tbl := List.mem_of_getElem? (i := 488) (by decide +kernel)
theorem lX4_137 : Cond.methodLink RX4 137 yX3_widthOf ∈ lw_tbl := List.mem_of_getElem? (i := 489) (by decide +kernel)
theorem lX4_128 : Cond.methodLink RX4 128 yX4_rowBehind ∈ lw_tbl := List.mem_of_getElem? (i := 493) (by decide +kernel)
theorem lX4_110 : Cond.methodLink RX4 110 yX4_leastCostFrom ∈ lw_tbl := List.mem_of_getElem? (i := 497) (by decide +kernel)
theorem lX4_51 : Cond.methodLink RX4 51 yX4_run ∈ lw_tbl := List.mem_of_getElem? (i := 502) (by decide +kernel)
theorem lX4_114 : Cond.methodLink RX4 114 yX4_layFrom ∈ lw_tbl := List.mem_of_getElem? (i := 506) (by decide +kernel)
theorem lX4_140 : Cond.methodLink RX4 140 yX4_keep ∈ lw_tbl := List.mem_of_getElem? (i := 510) (by decide +kernel)
theorem lX4_158 : zAc RX4 158 := ⟨List.mem_of_getElem? (i := 514) (by decide +kernel), List.mem_of_getElem? (i := 318) (by decide +kernel), List.mem_of_getElem? (i := 317) (by decide +kernel), List.mem_of_getElem? (i := 69) (by decide +kernel)⟩
theorem lX4_144 : Cond.methodLink RX4 144 yX4_tryLine ∈ lw_tbl := List.mem_of_getElem? (i := 515) (by decide +kernel)
theorem lX4_148 : Cond.methodLink RX4 148 yX4_placeWords ∈ lw_tbl := List.mem_of_getElem? (i := 519) (by decide +kernel)
theorem lX4_164 : Cond.methodLink RX4 164 yX0_firstOf ∈ lw_tbl := List.mem_of_getElem? (i := 523) (by decide +kernel)
theorem lX4_151 : Cond.methodLink RX4 151 yX4_chainFromAbove ∈ lw_tbl := List.mem_of_getElem? (i := 524) (by decide +kernel)
theorem lX4_173 : Cond.methodLink RX4 173 yX4_longestTouching ∈ lw_tbl := List.mem_of_getElem? (i := 528) (by decide +kernel)
theorem lX4_177 : zMath Lib.Math.max.name Lib.Math.max.code 2 RX4 177 := ⟨List.mem_of_getElem? (i := 532) (by decide +kernel), List.mem_of_getElem? (i := 469) (by decide +kernel), List.mem_of_getElem? (i := 70) (by decide +kernel), List.mem_of_getElem? (i := 470) (by decide +kernel)⟩
theorem lL_72 : Cond.methodLink RL 72 yX7_fit ∈ lw_tbl := List.mem_of_getElem? (i := 533) (by decide +kernel)
theorem lX7_129 : Cond.methodLink RX7 129 yX7_greatestBase ∈ lw_tbl := List.mem_of_getElem? (i := 537) (by decide +kernel)
theorem lX7_140 : Cond.methodLink RX7 140 yX4_hasLayout ∈ lw_tbl := List.mem_of_getElem? (i := 541) (by decide +kernel)
theorem lL_76 : Cond.methodLink RL 76 yX7_allowed ∈ lw_tbl := List.mem_of_getElem? (i := 545) (by decide +kernel)
theorem lX7_133 : Cond.methodLink RX7 133 yX4_countLayouts ∈ lw_tbl := List.mem_of_getElem? (i := 549) (by decide +kernel)
theorem lL_80 : Cond.methodLink RL 80 yX7_take ∈ lw_tbl := List.mem_of_getElem? (i := 553) (by decide +kernel)
theorem lX7_136 : Cond.methodLink RX7 136 yX4_describeBest ∈ lw_tbl := List.mem_of_getElem? (i := 557) (by decide +kernel)
theorem lX4_184 : Cond.methodLink RX4 184 yX2_init ∈ lw_tbl := List.mem_of_getElem? (i := 563) (by decide +kernel)
theorem lX2_3 : Cond.methodLink RX2 3 objectInit ∈ lw_tbl := List.mem_of_getElem? (i := 566) (by decide +kernel)
theorem lX4_186 : Cond.methodLink RX4 186 yX4_describeLine ∈ lw_tbl := List.mem_of_getElem? (i := 590) (by decide +kernel)
theorem lX4_190 : Cond.methodLink RX4 190 yX4_chainFromBelow ∈ lw_tbl := List.mem_of_getElem? (i := 594) (by decide +kernel)
theorem lX4_193 : Cond.methodLink RX4 193 yX4_describeWords ∈ lw_tbl := List.mem_of_getElem? (i := 598) (by decide +kernel)
theorem lX4_197 : Cond.methodLink RX4 197 yX2_putTotals ∈ lw_tbl := List.mem_of_getElem? (i := 602) (by decide +kernel)
theorem lL_84 : Cond.methodLink RL 84 yX7_widestStep ∈ lw_tbl := List.mem_of_getElem? (i := 606) (by decide +kernel)
theorem lL_88 : Cond.methodLink RL 88 yX7_tightestLimit ∈ lw_tbl := List.mem_of_getElem? (i := 610) (by decide +kernel)
theorem lL_92 : Cond.methodLink RL 92 yX7_layout ∈ lw_tbl := List.mem_of_getElem? (i := 614) (by decide +kernel)
theorem lL_96 : Cond.methodLink RL 96 yX7_line ∈ lw_tbl := List.mem_of_getElem? (i := 618) (by decide +kernel)
theorem lL_100 : Cond.methodLink RL 100 yX7_placed ∈ lw_tbl := List.mem_of_getElem? (i := 622) (by decide +kernel)
theorem lL_104 : Cond.methodLink RL 104 yX7_type ∈ lw_tbl := List.mem_of_getElem? (i := 626) (by decide +kernel)
theorem lL_108 : Cond.methodLink RL 108 yX7_clearText ∈ lw_tbl := List.mem_of_getElem? (i := 630) (by decide +kernel)
theorem lL_112 : Cond.methodLink RL 112 yX7_textFault ∈ lw_tbl := List.mem_of_getElem? (i := 634) (by decide +kernel)
theorem lX7_159 : Cond.methodLink RX7 159 yX6_read ∈ lw_tbl := List.mem_of_getElem? (i := 638) (by decide +kernel)
theorem lX6_22 : Cond.methodLink RX6 22 yX6_accepts ∈ lw_tbl := List.mem_of_getElem? (i := 642) (by decide +kernel)
theorem lX6_26 : Cond.methodLink RX6 26 yX6_isLetter ∈ lw_tbl := List.mem_of_getElem? (i := 646) (by decide +kernel)
theorem lX6_29 : Cond.methodLink RX6 29 yX6_addLetter ∈ lw_tbl := List.mem_of_getElem? (i := 650) (by decide +kernel)
theorem lX6_46 : Cond.methodLink RX6 46 yX6_addUpTo ∈ lw_tbl := List.mem_of_getElem? (i := 654) (by decide +kernel)
theorem lX6_39 : Cond.methodLink RX6 39 yX6_goTo ∈ lw_tbl := List.mem_of_getElem? (i := 658) (by decide +kernel)
theorem lX6_33 : Cond.methodLink RX6 33 yX6_beginWord ∈ lw_tbl := List.mem_of_getElem? (i := 662) (by decide +kernel)
theorem lX6_36 : Cond.methodLink RX6 36 yX6_addShout ∈ lw_tbl := List.mem_of_getElem? (i := 666) (by decide +kernel)
theorem lL_116 : Cond.methodLink RL 116 yX7_load ∈ lw_tbl := List.mem_of_getElem? (i := 670) (by decide +kernel)
theorem lX7_166 : zAc RX7 166 := ⟨List.mem_of_getElem? (i := 674) (by decide +kernel), List.mem_of_getElem? (i := 318) (by decide +kernel), List.mem_of_getElem? (i := 317) (by decide +kernel), List.mem_of_getElem? (i := 69) (by decide +kernel)⟩
theorem lL_120 : Cond.methodLink RL 120 yX7_undo ∈ lw_tbl := List.mem_of_getElem? (i := 675) (by decide +kernel)
theorem lL_124 : Cond.methodLink RL 124 yX7_digest ∈ lw_tbl := List.mem_of_getElem? (i := 679) (by decide +kernel)
theorem lX7_180 : Cond.methodLink RX7 180 yX7_count ∈ lw_tbl := List.mem_of_getElem? (i := 685) (by decide +kernel)
theorem lX7_183 : Cond.methodLink RX7 183 yX7_span ∈ lw_tbl := List.mem_of_getElem? (i := 686) (by decide +kernel)
theorem lX7_187 : Cond.methodLink RX7 187 yX7_addAll ∈ lw_tbl := List.mem_of_getElem? (i := 687) (by decide +kernel)
theorem lL_12 : Cond.methodLink RL 12 yX8_init ∈ lw_tbl := List.mem_of_getElem? (i := 692) (by decide +kernel)
theorem lX8_1 : Cond.methodLink RX8 1 objectInit ∈ lw_tbl := List.mem_of_getElem? (i := 695) (by decide +kernel)
theorem lL_17 : Cond.methodLink RL 17 yX8_addShape ∈ lw_tbl := List.mem_of_getElem? (i := 757) (by decide +kernel)
theorem lX8_53 : Cond.methodLink RX8 53 yX8_in ∈ lw_tbl := List.mem_of_getElem? (i := 761) (by decide +kernel)
theorem lX8_68 : Cond.methodLink RX8 68 yX8_records ∈ lw_tbl := List.mem_of_getElem? (i := 764) (by decide +kernel)
theorem lX8_45 : Cond.methodLink RX8 45 yX8_copies ∈ lw_tbl := List.mem_of_getElem? (i := 768) (by decide +kernel)
theorem lL_22 : Cond.methodLink RL 22 yX8_moveShape ∈ lw_tbl := List.mem_of_getElem? (i := 772) (by decide +kernel)
theorem lX8_71 : Cond.methodLink RX8 71 yX8_isShape ∈ lw_tbl := List.mem_of_getElem? (i := 776) (by decide +kernel)
theorem lX8_49 : Cond.methodLink RX8 49 yX8_shapeOf ∈ lw_tbl := List.mem_of_getElem? (i := 780) (by decide +kernel)
theorem lX8_75 : Cond.methodLink RX8 75 yX8_freeCells ∈ lw_tbl := List.mem_of_getElem? (i := 784) (by decide +kernel)
theorem lX8_64 : Cond.methodLink RX8 64 yX8_free ∈ lw_tbl := List.mem_of_getElem? (i := 788) (by decide +kernel)
theorem lX8_61 : Cond.methodLink RX8 61 yX8_belongs ∈ lw_tbl := List.mem_of_getElem? (i := 792) (by decide +kernel)
theorem lX8_57 : Cond.methodLink RX8 57 yX8_size ∈ lw_tbl := List.mem_of_getElem? (i := 796) (by decide +kernel)
theorem lL_27 : Cond.methodLink RL 27 yX8_removeShape ∈ lw_tbl := List.mem_of_getElem? (i := 799) (by decide +kernel)
theorem lL_32 : Cond.methodLink RL 32 yX8_isFree ∈ lw_tbl := List.mem_of_getElem? (i := 803) (by decide +kernel)
theorem lL_36 : Cond.methodLink RL 36 yX8_span ∈ lw_tbl := List.mem_of_getElem? (i := 807) (by decide +kernel)
theorem lX8_83 : Cond.methodLink RX8 83 yX8_findsSpans ∈ lw_tbl := List.mem_of_getElem? (i := 811) (by decide +kernel)
theorem lX8_79 : Cond.methodLink RX8 79 yX8_notesSpan ∈ lw_tbl := List.mem_of_getElem? (i := 815) (by decide +kernel)
theorem lL_40 : Cond.methodLink RL 40 yX8_addWord ∈ lw_tbl := List.mem_of_getElem? (i := 819) (by decide +kernel)
theorem lX8_86 : Cond.methodLink RX8 86 yX8_becomes ∈ lw_tbl := List.mem_of_getElem? (i := 823) (by decide +kernel)
theorem lL_45 : Cond.methodLink RL 45 yX8_setWord ∈ lw_tbl := List.mem_of_getElem? (i := 827) (by decide +kernel)
theorem lX8_90 : Cond.methodLink RX8 90 yX8_isWord ∈ lw_tbl := List.mem_of_getElem? (i := 831) (by decide +kernel)
theorem lX8_93 : Cond.methodLink RX8 93 yX8_of ∈ lw_tbl := List.mem_of_getElem? (i := 835) (by decide +kernel)
theorem lL_50 : Cond.methodLink RL 50 yX8_clearWords ∈ lw_tbl := List.mem_of_getElem? (i := 839) (by decide +kernel)
theorem lL_55 : Cond.methodLink RL 55 yX8_setSizes ∈ lw_tbl := List.mem_of_getElem? (i := 843) (by decide +kernel)
theorem lL_59 : Cond.methodLink RL 59 yX8_setLines ∈ lw_tbl := List.mem_of_getElem? (i := 847) (by decide +kernel)
theorem lL_63 : Cond.methodLink RL 63 yX8_count ∈ lw_tbl := List.mem_of_getElem? (i := 851) (by decide +kernel)
theorem lL_67 : Cond.methodLink RL 67 yX8_word ∈ lw_tbl := List.mem_of_getElem? (i := 855) (by decide +kernel)
theorem lL_71 : Cond.methodLink RL 71 yX8_cost ∈ lw_tbl := List.mem_of_getElem? (i := 859) (by decide +kernel)
theorem lX8_141 : Cond.methodLink RX8 141 yX8_finds ∈ lw_tbl := List.mem_of_getElem? (i := 863) (by decide +kernel)
theorem lX8_135 : Cond.methodLink RX8 135 yX8_isLeast ∈ lw_tbl := List.mem_of_getElem? (i := 867) (by decide +kernel)
theorem lX8_96 : Cond.methodLink RX8 96 yX8_sizeOf ∈ lw_tbl := List.mem_of_getElem? (i := 871) (by decide +kernel)
theorem lX8_138 : Cond.methodLink RX8 138 yX8_lays ∈ lw_tbl := List.mem_of_getElem? (i := 875) (by decide +kernel)
theorem lX8_105 : Cond.methodLink RX8 105 yX8_least ∈ lw_tbl := List.mem_of_getElem? (i := 879) (by decide +kernel)
theorem lX8_108 : Cond.methodLink RX8 108 yX8_breaks ∈ lw_tbl := List.mem_of_getElem? (i := 882) (by decide +kernel)
theorem lX8_114 : Cond.methodLink RX8 114 yX8_places ∈ lw_tbl := List.mem_of_getElem? (i := 886) (by decide +kernel)
theorem lX8_117 : Cond.methodLink RX8 117 yX8_chainsUp ∈ lw_tbl := List.mem_of_getElem? (i := 890) (by decide +kernel)
theorem lX8_120 : Cond.methodLink RX8 120 yX8_hasGap ∈ lw_tbl := List.mem_of_getElem? (i := 894) (by decide +kernel)
theorem lX8_126 : Cond.methodLink RX8 126 yX8_touch ∈ lw_tbl := List.mem_of_getElem? (i := 898) (by decide +kernel)
theorem lX8_123 : Cond.methodLink RX8 123 yX8_gapFrom ∈ lw_tbl := List.mem_of_getElem? (i := 902) (by decide +kernel)
theorem lL_75 : Cond.methodLink RL 75 yX8_fit ∈ lw_tbl := List.mem_of_getElem? (i := 906) (by decide +kernel)
theorem lX8_144 : Cond.methodLink RX8 144 yX8_fits ∈ lw_tbl := List.mem_of_getElem? (i := 910) (by decide +kernel)
theorem lL_79 : Cond.methodLink RL 79 yX8_allowed ∈ lw_tbl := List.mem_of_getElem? (i := 914) (by decide +kernel)
theorem lL_83 : Cond.methodLink RL 83 yX8_take ∈ lw_tbl := List.mem_of_getElem? (i := 918) (by decide +kernel)
theorem lX8_147 : Cond.methodLink RX8 147 yX8_chains ∈ lw_tbl := List.mem_of_getElem? (i := 922) (by decide +kernel)
theorem lL_87 : Cond.methodLink RL 87 yX8_widestStep ∈ lw_tbl := List.mem_of_getElem? (i := 926) (by decide +kernel)
theorem lL_91 : Cond.methodLink RL 91 yX8_tightestLimit ∈ lw_tbl := List.mem_of_getElem? (i := 930) (by decide +kernel)
theorem lL_95 : Cond.methodLink RL 95 yX8_layout ∈ lw_tbl := List.mem_of_getElem? (i := 934) (by decide +kernel)
theorem lL_99 : Cond.methodLink RL 99 yX8_line ∈ lw_tbl := List.mem_of_getElem? (i := 938) (by decide +kernel)
theorem lL_103 : Cond.methodLink RL 103 yX8_placed ∈ lw_tbl := List.mem_of_getElem? (i := 942) (by decide +kernel)
theorem lL_107 : Cond.methodLink RL 107 yX8_type ∈ lw_tbl := List.mem_of_getElem? (i := 946) (by decide +kernel)
theorem lL_111 : Cond.methodLink RL 111 yX8_clearText ∈ lw_tbl := List.mem_of_getElem? (i := 950) (by decide +kernel)
theorem lL_115 : Cond.methodLink RL 115 yX8_textFault ∈ lw_tbl := List.mem_of_getElem? (i := 954) (by decide +kernel)
theorem lX8_169 : Cond.methodLink RX8 169 yX8_readsText ∈ lw_tbl := List.mem_of_getElem? (i := 958) (by decide +kernel)
theorem lX8_162 : Cond.methodLink RX8 162 yX8_blanks ∈ lw_tbl := List.mem_of_getElem? (i := 962) (by decide +kernel)
theorem lX8_156 : Cond.methodLink RX8 156 yX8_isSign ∈ lw_tbl := List.mem_of_getElem? (i := 966) (by decide +kernel)
theorem lX8_166 : Cond.methodLink RX8 166 yX8_isLetter ∈ lw_tbl := List.mem_of_getElem? (i := 970) (by decide +kernel)
theorem lL_119 : Cond.methodLink RL 119 yX8_load ∈ lw_tbl := List.mem_of_getElem? (i := 974) (by decide +kernel)
theorem lL_123 : Cond.methodLink RL 123 yX8_undo ∈ lw_tbl := List.mem_of_getElem? (i := 978) (by decide +kernel)
theorem lL_128 : Cond.methodLink RL 128 yX8_digest ∈ lw_tbl := List.mem_of_getElem? (i := 982) (by decide +kernel)
theorem lX8_180 : Cond.methodLink RX8 180 yX8_count ∈ lw_tbl := List.mem_of_getElem? (i := 987) (by decide +kernel)
theorem lX8_183 : Cond.methodLink RX8 183 yX8_note ∈ lw_tbl := List.mem_of_getElem? (i := 988) (by decide +kernel)
theorem lX5_11 : Cond.methodLinkNest RX5 11 yX1_init "PosterFitter" ∈ lw_n := List.mem_of_getElem? (i := 0) rfl
theorem lX7_33 : Cond.methodLinkNest RX7 33 yX6_init "PosterFitter" ∈ lw_n := List.mem_of_getElem? (i := 1) rfl
theorem lX7_40 : Cond.methodLinkNest RX7 40 yX4_init "PosterFitter" ∈ lw_n := List.mem_of_getElem? (i := 2) rfl
theorem lX4_11 : Cond.methodLinkNest RX4 11 yX0_init "PosterFitter" ∈ lw_n := List.mem_of_getElem? (i := 3) rfl
theorem lX4_20 : Cond.methodLinkNest RX4 20 yX3_init "PosterFitter" ∈ lw_n := List.mem_of_getElem? (i := 4) rfl
theorem lX1_36 : Cond.methodLinkNest RX1 36 yX7_isBox "PosterFitter" ∈ lw_n := List.mem_of_getElem? (i := 5) rfl
theorem lX6_42 : Cond.methodLinkNest RX6 42 yX7_isIn "PosterFitter" ∈ lw_n := List.mem_of_getElem? (i := 6) rfl
theorem l_oi : Cond.instanceMethod objectInit ∈ lw_tbl := List.mem_of_getElem? (i := 79) (by decide +kernel)
theorem l_oc : Cond.code objectInit ⟨#[0xb1]⟩ 1 none ∈ lw_tbl := List.mem_of_getElem? (i := 80) (by decide +kernel)
theorem l_ai : Cond.arrayClass .int ∈ lw_tbl := List.mem_of_getElem? (i := 108) (by decide +kernel)
theorem l_al : Cond.arrayClass .long ∈ lw_tbl := List.mem_of_getElem? (i := 109) (by decide +kernel)
theorem cL_7 : Cond.classLink RL 7 (zRn 7) ∈ lw_tbl := List.mem_of_getElem? (i := 73) (by decide +kernel)
theorem cX7_7 : Cond.classLink RX7 7 (zRn 5) ∈ lw_tbl := List.mem_of_getElem? (i := 81) (by decide +kernel)
theorem cX5_9 : Cond.classLink RX5 9 (zRn 1) ∈ lw_tbl := List.mem_of_getElem? (i := 87) (by decide +kernel)
theorem cX7_31 : Cond.classLink RX7 31 (zRn 6) ∈ lw_tbl := List.mem_of_getElem? (i := 139) (by decide +kernel)
theorem cX7_38 : Cond.classLink RX7 38 (zRn 4) ∈ lw_tbl := List.mem_of_getElem? (i := 157) (by decide +kernel)
theorem cX4_9 : Cond.classLink RX4 9 (zRn 0) ∈ lw_tbl := List.mem_of_getElem? (i := 163) (by decide +kernel)
theorem cX4_18 : Cond.classLink RX4 18 (zRn 3) ∈ lw_tbl := List.mem_of_getElem? (i := 179) (by decide +kernel)
theorem cX4_182 : Cond.classLink RX4 182 (zRn 2) ∈ lw_tbl := List.mem_of_getElem? (i := 561) (by decide +kernel)
theorem cL_10 : Cond.classLink RL 10 (zRn 8) ∈ lw_tbl := List.mem_of_getElem? (i := 690) (by decide +kernel)
theorem n_7 : Cond.instantiable (zRn 7) (zN 7) ∈ lw_tbl := List.mem_of_getElem? (i := 74) (by decide +kernel)
theorem u_7 : Cond.initialized (zRn 7) ∈ lw_tbl := List.mem_of_getElem? (i := 60) (by decide +kernel)
theorem n_5 : Cond.instantiable (zRn 5) (zN 5) ∈ lw_tbl := List.mem_of_getElem? (i := 82) (by decide +kernel)
theorem u_5 : Cond.initialized (zRn 5) ∈ lw_tbl := List.mem_of_getElem? (i := 61) (by decide +kernel)
theorem n_1 : Cond.instantiable (zRn 1) (zN 1) ∈ lw_tbl := List.mem_of_getElem? (i := 88) (by decide +kernel)
theorem u_1 : Cond.initialized (zRn 1) ∈ lw_tbl := List.mem_of_getElem? (i := 62) (by decide +kernel)
theorem n_6 : Cond.instantiable (zRn 6) (zN 6) ∈ lw_tbl := List.mem_of_getElem? (i := 140) (by decide +kernel)
theorem u_6 : Cond.initialized (zRn 6) ∈ lw_tbl := List.mem_of_getElem? (i := 64) (by decide +kernel)
theorem n_4 : Cond.instantiable (zRn 4) (zN 4) ∈ lw_tbl := List.mem_of_getElem? (i := 158) (by decide +kernel)
theorem u_4 : Cond.initialized (zRn 4) ∈ lw_tbl := List.mem_of_getElem? (i := 65) (by decide +kernel)
theorem n_0 : Cond.instantiable (zRn 0) (zN 0) ∈ lw_tbl := List.mem_of_getElem? (i := 164) (by decide +kernel)
theorem u_0 : Cond.initialized (zRn 0) ∈ lw_tbl := List.mem_of_getElem? (i := 66) (by decide +kernel)
theorem n_3 : Cond.instantiable (zRn 3) (zN 3) ∈ lw_tbl := List.mem_of_getElem? (i := 180) (by decide +kernel)
theorem u_3 : Cond.initialized (zRn 3) ∈ lw_tbl := List.mem_of_getElem? (i := 67) (by decide +kernel)
theorem n_2 : Cond.instantiable (zRn 2) (zN 2) ∈ lw_tbl := List.mem_of_getElem? (i := 562) (by decide +kernel)
theorem u_2 : Cond.initialized (zRn 2) ∈ lw_tbl := List.mem_of_getElem? (i := 72) (by decide +kernel)
theorem n_8 : Cond.instantiable (zRn 8) (zN 8) ∈ lw_tbl := List.mem_of_getElem? (i := 691) (by decide +kernel)
theorem u_8 : Cond.initialized (zRn 8) ∈ lw_tbl := List.mem_of_getElem? (i := 68) (by decide +kernel)
theorem kX4_66 : Cond.constant RX4 66 (2147483647) ∈ lw_tbl := List.mem_of_getElem? (i := 501) (by decide +kernel)
theorem kJ13_314 : Cond.constantLong RJ13 314 (6148914691236517205) ∈ lw_tbl := List.mem_of_getElem? (i := 358) (by decide +kernel)
theorem kJ13_316 : Cond.constantLong RJ13 316 (3689348814741910323) ∈ lw_tbl := List.mem_of_getElem? (i := 359) (by decide +kernel)
theorem kJ13_318 : Cond.constantLong RJ13 318 (1085102592571150095) ∈ lw_tbl := List.mem_of_getElem? (i := 360) (by decide +kernel)
theorem kX7_176 : Cond.constantLong RX7 176 (23) ∈ lw_tbl := List.mem_of_getElem? (i := 683) (by decide +kernel)
theorem kX7_178 : Cond.constantLong RX7 178 (31) ∈ lw_tbl := List.mem_of_getElem? (i := 684) (by decide +kernel)
theorem kX8_178 : Cond.constantLong RX8 178 (23) ∈ lw_tbl := List.mem_of_getElem? (i := 986) (by decide +kernel)
theorem kX8_172 : Cond.constantLong RX8 172 (31) ∈ lw_tbl := List.mem_of_getElem? (i := 992) (by decide +kernel)
theorem fX1_9 : zFl RX1 9 1 0 := ⟨by decide, by decide, List.mem_of_getElem? (i := 93) (by decide +kernel)⟩
theorem fX7_57 : zFl RX7 57 1 0 := ⟨by decide, by decide, List.mem_of_getElem? (i := 94) (by decide +kernel)⟩
theorem fX1_15 : zFl RX1 15 1 1 := ⟨by decide, by decide, List.mem_of_getElem? (i := 95) (by decide +kernel)⟩
theorem fX0_21 : zFl RX0 21 1 1 := ⟨by decide, by decide, List.mem_of_getElem? (i := 96) (by decide +kernel)⟩
theorem fX1_18 : zFl RX1 18 1 2 := ⟨by decide, by decide, List.mem_of_getElem? (i := 97) (by decide +kernel)⟩
theorem fX1_22 : zFl RX1 22 1 3 := ⟨by decide, by decide, List.mem_of_getElem? (i := 98) (by decide +kernel)⟩
theorem fX5_12 : zFl RX5 12 5 0 := ⟨by decide, by decide, List.mem_of_getElem? (i := 113) (by decide +kernel)⟩
theorem fX7_53 : zFl RX7 53 5 0 := ⟨by decide, by decide, List.mem_of_getElem? (i := 114) (by decide +kernel)⟩
theorem fX4_89 : zFl RX4 89 5 0 := ⟨by decide, by decide, List.mem_of_getElem? (i := 115) (by decide +kernel)⟩
theorem fX5_18 : zFl RX5 18 5 1 := ⟨by decide, by decide, List.mem_of_getElem? (i := 116) (by decide +kernel)⟩
theorem fX3_34 : zFl RX3 34 5 1 := ⟨by decide, by decide, List.mem_of_getElem? (i := 117) (by decide +kernel)⟩
theorem fX7_108 : zFl RX7 108 5 1 := ⟨by decide, by decide, List.mem_of_getElem? (i := 118) (by decide +kernel)⟩
theorem fX5_22 : zFl RX5 22 5 2 := ⟨by decide, by decide, List.mem_of_getElem? (i := 119) (by decide +kernel)⟩
theorem fX7_165 : zFl RX7 165 5 2 := ⟨by decide, by decide, List.mem_of_getElem? (i := 120) (by decide +kernel)⟩
theorem fX5_26 : zFl RX5 26 5 3 := ⟨by decide, by decide, List.mem_of_getElem? (i := 121) (by decide +kernel)⟩
theorem fX3_41 : zFl RX3 41 5 3 := ⟨by decide, by decide, List.mem_of_getElem? (i := 122) (by decide +kernel)⟩
theorem fX4_59 : zFl RX4 59 5 3 := ⟨by decide, by decide, List.mem_of_getElem? (i := 123) (by decide +kernel)⟩
theorem fX7_118 : zFl RX7 118 5 3 := ⟨by decide, by decide, List.mem_of_getElem? (i := 124) (by decide +kernel)⟩
theorem fX5_29 : zFl RX5 29 5 4 := ⟨by decide, by decide, List.mem_of_getElem? (i := 125) (by decide +kernel)⟩
theorem fX7_121 : zFl RX7 121 5 4 := ⟨by decide, by decide, List.mem_of_getElem? (i := 126) (by decide +kernel)⟩
theorem fX6_9 : zFl RX6 9 6 0 := ⟨by decide, by decide, List.mem_of_getElem? (i := 145) (by decide +kernel)⟩
theorem fX7_163 : zFl RX7 163 6 0 := ⟨by decide, by decide, List.mem_of_getElem? (i := 146) (by decide +kernel)⟩
theorem fX6_15 : zFl RX6 15 6 1 := ⟨by decide, by decide, List.mem_of_getElem? (i := 147) (by decide +kernel)⟩
theorem fX7_164 : zFl RX7 164 6 1 := ⟨by decide, by decide, List.mem_of_getElem? (i := 148) (by decide +kernel)⟩
theorem fX6_19 : zFl RX6 19 6 2 := ⟨by decide, by decide, List.mem_of_getElem? (i := 149) (by decide +kernel)⟩
theorem fX0_9 : zFl RX0 9 0 0 := ⟨by decide, by decide, List.mem_of_getElem? (i := 169) (by decide +kernel)⟩
theorem fX0_15 : zFl RX0 15 0 1 := ⟨by decide, by decide, List.mem_of_getElem? (i := 170) (by decide +kernel)⟩
theorem fX0_18 : zFl RX0 18 0 2 := ⟨by decide, by decide, List.mem_of_getElem? (i := 171) (by decide +kernel)⟩
theorem fX3_9 : zFl RX3 9 3 0 := ⟨by decide, by decide, List.mem_of_getElem? (i := 185) (by decide +kernel)⟩
theorem fX4_86 : zFl RX4 86 3 0 := ⟨by decide, by decide, List.mem_of_getElem? (i := 186) (by decide +kernel)⟩
theorem fX3_15 : zFl RX3 15 3 1 := ⟨by decide, by decide, List.mem_of_getElem? (i := 187) (by decide +kernel)⟩
theorem fX4_93 : zFl RX4 93 3 1 := ⟨by decide, by decide, List.mem_of_getElem? (i := 188) (by decide +kernel)⟩
theorem fX3_19 : zFl RX3 19 3 2 := ⟨by decide, by decide, List.mem_of_getElem? (i := 189) (by decide +kernel)⟩
theorem fX4_167 : zFl RX4 167 3 2 := ⟨by decide, by decide, List.mem_of_getElem? (i := 190) (by decide +kernel)⟩
theorem fX3_22 : zFl RX3 22 3 3 := ⟨by decide, by decide, List.mem_of_getElem? (i := 191) (by decide +kernel)⟩
theorem fX4_170 : zFl RX4 170 3 3 := ⟨by decide, by decide, List.mem_of_getElem? (i := 192) (by decide +kernel)⟩
theorem fX3_25 : zFl RX3 25 3 4 := ⟨by decide, by decide, List.mem_of_getElem? (i := 193) (by decide +kernel)⟩
theorem fX4_121 : zFl RX4 121 3 4 := ⟨by decide, by decide, List.mem_of_getElem? (i := 194) (by decide +kernel)⟩
theorem fX3_28 : zFl RX3 28 3 5 := ⟨by decide, by decide, List.mem_of_getElem? (i := 195) (by decide +kernel)⟩
theorem fX3_31 : zFl RX3 31 3 6 := ⟨by decide, by decide, List.mem_of_getElem? (i := 196) (by decide +kernel)⟩
theorem fX4_12 : zFl RX4 12 4 0 := ⟨by decide, by decide, List.mem_of_getElem? (i := 212) (by decide +kernel)⟩
theorem fX7_91 : zFl RX7 91 4 0 := ⟨by decide, by decide, List.mem_of_getElem? (i := 213) (by decide +kernel)⟩
theorem fX4_21 : zFl RX4 21 4 1 := ⟨by decide, by decide, List.mem_of_getElem? (i := 214) (by decide +kernel)⟩
theorem fX4_74 : zFl RX4 74 4 2 := ⟨by decide, by decide, List.mem_of_getElem? (i := 215) (by decide +kernel)⟩
theorem fX4_77 : zFl RX4 77 4 3 := ⟨by decide, by decide, List.mem_of_getElem? (i := 216) (by decide +kernel)⟩
theorem fX4_80 : zFl RX4 80 4 4 := ⟨by decide, by decide, List.mem_of_getElem? (i := 217) (by decide +kernel)⟩
theorem fX4_83 : zFl RX4 83 4 5 := ⟨by decide, by decide, List.mem_of_getElem? (i := 218) (by decide +kernel)⟩
theorem fX4_25 : zFl RX4 25 4 6 := ⟨by decide, by decide, List.mem_of_getElem? (i := 219) (by decide +kernel)⟩
theorem fX4_29 : zFl RX4 29 4 7 := ⟨by decide, by decide, List.mem_of_getElem? (i := 220) (by decide +kernel)⟩
theorem fX4_32 : zFl RX4 32 4 8 := ⟨by decide, by decide, List.mem_of_getElem? (i := 221) (by decide +kernel)⟩
theorem fX4_35 : zFl RX4 35 4 9 := ⟨by decide, by decide, List.mem_of_getElem? (i := 222) (by decide +kernel)⟩
theorem fX4_38 : zFl RX4 38 4 10 := ⟨by decide, by decide, List.mem_of_getElem? (i := 223) (by decide +kernel)⟩
theorem fX4_41 : zFl RX4 41 4 11 := ⟨by decide, by decide, List.mem_of_getElem? (i := 224) (by decide +kernel)⟩
theorem fX4_55 : zFl RX4 55 4 12 := ⟨by decide, by decide, List.mem_of_getElem? (i := 225) (by decide +kernel)⟩
theorem fX4_103 : zFl RX4 103 4 13 := ⟨by decide, by decide, List.mem_of_getElem? (i := 226) (by decide +kernel)⟩
theorem fX4_106 : zFl RX4 106 4 14 := ⟨by decide, by decide, List.mem_of_getElem? (i := 227) (by decide +kernel)⟩
theorem fX4_44 : zFl RX4 44 4 15 := ⟨by decide, by decide, List.mem_of_getElem? (i := 228) (by decide +kernel)⟩
theorem fX4_155 : zFl RX4 155 4 16 := ⟨by decide, by decide, List.mem_of_getElem? (i := 229) (by decide +kernel)⟩
theorem fX4_67 : zFl RX4 67 4 17 := ⟨by decide, by decide, List.mem_of_getElem? (i := 230) (by decide +kernel)⟩
theorem fX7_10 : zFl RX7 10 7 0 := ⟨by decide, by decide, List.mem_of_getElem? (i := 268) (by decide +kernel)⟩
theorem fX7_16 : zFl RX7 16 7 1 := ⟨by decide, by decide, List.mem_of_getElem? (i := 269) (by decide +kernel)⟩
theorem fX7_20 : zFl RX7 20 7 2 := ⟨by decide, by decide, List.mem_of_getElem? (i := 270) (by decide +kernel)⟩
theorem fX7_24 : zFl RX7 24 7 3 := ⟨by decide, by decide, List.mem_of_getElem? (i := 271) (by decide +kernel)⟩
theorem fX7_28 : zFl RX7 28 7 4 := ⟨by decide, by decide, List.mem_of_getElem? (i := 272) (by decide +kernel)⟩
theorem fX7_34 : zFl RX7 34 7 5 := ⟨by decide, by decide, List.mem_of_getElem? (i := 273) (by decide +kernel)⟩
theorem fX7_41 : zFl RX7 41 7 6 := ⟨by decide, by decide, List.mem_of_getElem? (i := 274) (by decide +kernel)⟩
theorem fX2_15 : zFl RX2 15 2 0 := ⟨by decide, by decide, List.mem_of_getElem? (i := 567) (by decide +kernel)⟩
theorem fX7_149 : zFl RX7 149 2 0 := ⟨by decide, by decide, List.mem_of_getElem? (i := 568) (by decide +kernel)⟩
theorem fX2_19 : zFl RX2 19 2 1 := ⟨by decide, by decide, List.mem_of_getElem? (i := 569) (by decide +kernel)⟩
theorem fX7_155 : zFl RX7 155 2 1 := ⟨by decide, by decide, List.mem_of_getElem? (i := 570) (by decide +kernel)⟩
theorem fX2_9 : zFl RX2 9 2 2 := ⟨by decide, by decide, List.mem_of_getElem? (i := 571) (by decide +kernel)⟩
theorem fX7_144 : zFl RX7 144 2 2 := ⟨by decide, by decide, List.mem_of_getElem? (i := 572) (by decide +kernel)⟩
theorem fX2_22 : zFl RX2 22 2 3 := ⟨by decide, by decide, List.mem_of_getElem? (i := 573) (by decide +kernel)⟩
theorem fX4_200 : zFl RX4 200 2 3 := ⟨by decide, by decide, List.mem_of_getElem? (i := 574) (by decide +kernel)⟩
theorem fX7_152 : zFl RX7 152 2 3 := ⟨by decide, by decide, List.mem_of_getElem? (i := 575) (by decide +kernel)⟩
theorem fX2_25 : zFl RX2 25 2 4 := ⟨by decide, by decide, List.mem_of_getElem? (i := 576) (by decide +kernel)⟩
theorem fX4_203 : zFl RX4 203 2 4 := ⟨by decide, by decide, List.mem_of_getElem? (i := 577) (by decide +kernel)⟩
theorem fX7_156 : zFl RX7 156 2 4 := ⟨by decide, by decide, List.mem_of_getElem? (i := 578) (by decide +kernel)⟩
theorem fX8_7 : zFl RX8 7 8 0 := ⟨by decide, by decide, List.mem_of_getElem? (i := 696) (by decide +kernel)⟩
theorem fX8_41 : zFl RX8 41 8 1 := ⟨by decide, by decide, List.mem_of_getElem? (i := 697) (by decide +kernel)⟩
theorem fX8_13 : zFl RX8 13 8 2 := ⟨by decide, by decide, List.mem_of_getElem? (i := 698) (by decide +kernel)⟩
theorem fX8_16 : zFl RX8 16 8 3 := ⟨by decide, by decide, List.mem_of_getElem? (i := 699) (by decide +kernel)⟩
theorem fX8_19 : zFl RX8 19 8 4 := ⟨by decide, by decide, List.mem_of_getElem? (i := 700) (by decide +kernel)⟩
theorem fX8_23 : zFl RX8 23 8 5 := ⟨by decide, by decide, List.mem_of_getElem? (i := 701) (by decide +kernel)⟩
theorem fX8_26 : zFl RX8 26 8 6 := ⟨by decide, by decide, List.mem_of_getElem? (i := 702) (by decide +kernel)⟩
theorem fX8_99 : zFl RX8 99 8 7 := ⟨by decide, by decide, List.mem_of_getElem? (i := 703) (by decide +kernel)⟩
theorem fX8_29 : zFl RX8 29 8 8 := ⟨by decide, by decide, List.mem_of_getElem? (i := 704) (by decide +kernel)⟩
theorem fX8_32 : zFl RX8 32 8 9 := ⟨by decide, by decide, List.mem_of_getElem? (i := 705) (by decide +kernel)⟩
theorem fX8_102 : zFl RX8 102 8 10 := ⟨by decide, by decide, List.mem_of_getElem? (i := 706) (by decide +kernel)⟩
theorem fX8_111 : zFl RX8 111 8 11 := ⟨by decide, by decide, List.mem_of_getElem? (i := 707) (by decide +kernel)⟩
theorem fX8_129 : zFl RX8 129 8 12 := ⟨by decide, by decide, List.mem_of_getElem? (i := 708) (by decide +kernel)⟩
theorem fX8_132 : zFl RX8 132 8 13 := ⟨by decide, by decide, List.mem_of_getElem? (i := 709) (by decide +kernel)⟩
theorem fX8_35 : zFl RX8 35 8 14 := ⟨by decide, by decide, List.mem_of_getElem? (i := 710) (by decide +kernel)⟩
theorem fX8_150 : zFl RX8 150 8 15 := ⟨by decide, by decide, List.mem_of_getElem? (i := 711) (by decide +kernel)⟩
theorem fX8_153 : zFl RX8 153 8 16 := ⟨by decide, by decide, List.mem_of_getElem? (i := 712) (by decide +kernel)⟩
theorem fX8_38 : zFl RX8 38 8 17 := ⟨by decide, by decide, List.mem_of_getElem? (i := 713) (by decide +kernel)⟩
theorem fX8_159 : zFl RX8 159 8 18 := ⟨by decide, by decide, List.mem_of_getElem? (i := 714) (by decide +kernel)⟩
theorem fX8_174 : zFl RX8 174 8 19 := ⟨by decide, by decide, List.mem_of_getElem? (i := 715) (by decide +kernel)⟩
def ssD : List (Nat × Nat) := [(7, 0), (5, 0), (1, 0), (9, 30), (10, 36), (9, 42), (9, 8), (11, 4), (9, 80), (6, 0), (9, 42), (4, 0), (0, 0), (9, 1296), (9, 1296), (9, 37), (3, 0), (9, 14), (9, 14), (9, 14), (9, 14), (9, 196), (9, 196), (9, 504), (9, 15), (9, 14), (9, 14), (9, 14), (9, 14), (9, 15), (5, 0), (1, 0), (9, 30), (10, 36), (9, 42), (9, 8), (5, 0), (1, 0), (9, 30), (10, 36), (9, 42), (9, 8), (5, 0), (1, 0), (9, 30), (10, 36), (9, 42), (9, 8), (5, 0), (1, 0), (9, 30), (10, 36), (9, 42), (9, 8), (8, 0), (9, 1285), (9, 1296), (9, 1296), (10, 36), (9, 98), (9, 70), (9, 14), (9, 14), (9, 80), (9, 42)]
def ssT : List (Nat × Nat × Nat) := [(0, 0, 1), (0, 1, 7), (0, 3, 8), (0, 5, 9), (0, 6, 11), (1, 0, 2), (1, 2, 5), (1, 3, 6), (2, 2, 3), (2, 3, 4), (9, 1, 10), (11, 0, 12), (11, 1, 16), (11, 6, 23), (11, 7, 24), (11, 8, 25), (11, 9, 26), (11, 10, 27), (11, 11, 28), (11, 15, 29), (12, 0, 13), (12, 1, 14), (12, 2, 15), (16, 1, 17), (16, 2, 18), (16, 3, 19), (16, 4, 20), (16, 5, 21), (16, 6, 22), (30, 0, 31), (30, 2, 34), (30, 3, 35), (31, 2, 32), (31, 3, 33), (36, 0, 37), (36, 2, 40), (36, 3, 41), (37, 2, 38), (37, 3, 39), (42, 0, 43), (42, 2, 46), (42, 3, 47), (43, 2, 44), (43, 3, 45), (48, 0, 49), (48, 2, 52), (48, 3, 53), (49, 2, 50), (49, 3, 51), (54, 0, 55), (54, 2, 56), (54, 3, 57), (54, 4, 58), (54, 5, 59), (54, 6, 60), (54, 8, 61), (54, 9, 62), (54, 14, 63), (54, 17, 64)]
def ssR (p k : Nat) : Option Nat := (ssT.find? (fun t => t.1 == p && t.2.1 == k)).map (fun t => t.2.2)
def SS : zS := (ssR, ssD)
theorem dd_0 : SS.2[0]? = some (7, 0) := rfl
theorem dd_1 : SS.2[1]? = some (5, 0) := rfl
theorem dd_2 : SS.2[2]? = some (1, 0) := rfl
theorem dd_3 : SS.2[3]? = some (9, 30) := rfl
theorem dd_4 : SS.2[4]? = some (10, 36) := rfl
theorem dd_5 : SS.2[5]? = some (9, 42) := rfl
theorem dd_6 : SS.2[6]? = some (9, 8) := rfl
theorem dd_7 : SS.2[7]? = some (11, 4) := rfl
theorem dd_8 : SS.2[8]? = some (9, 80) := rfl
theorem dd_9 : SS.2[9]? = some (6, 0) := rfl
theorem dd_10 : SS.2[10]? = some (9, 42) := rfl
theorem dd_11 : SS.2[11]? = some (4, 0) := rfl
theorem dd_12 : SS.2[12]? = some (0, 0) := rfl
theorem dd_13 : SS.2[13]? = some (9, 1296) := rfl
theorem dd_14 : SS.2[14]? = some (9, 1296) := rfl
theorem dd_15 : SS.2[15]? = some (9, 37) := rfl
theorem dd_16 : SS.2[16]? = some (3, 0) := rfl
theorem dd_17 : SS.2[17]? = some (9, 14) := rfl
theorem dd_18 : SS.2[18]? = some (9, 14) := rfl
theorem dd_19 : SS.2[19]? = some (9, 14) := rfl
theorem dd_20 : SS.2[20]? = some (9, 14) := rfl
theorem dd_21 : SS.2[21]? = some (9, 196) := rfl
theorem dd_22 : SS.2[22]? = some (9, 196) := rfl
theorem dd_23 : SS.2[23]? = some (9, 504) := rfl
theorem dd_24 : SS.2[24]? = some (9, 15) := rfl
theorem dd_25 : SS.2[25]? = some (9, 14) := rfl
theorem dd_26 : SS.2[26]? = some (9, 14) := rfl
theorem dd_27 : SS.2[27]? = some (9, 14) := rfl
theorem dd_28 : SS.2[28]? = some (9, 14) := rfl
theorem dd_29 : SS.2[29]? = some (9, 15) := rfl
theorem dd_30 : SS.2[30]? = some (5, 0) := rfl
theorem dd_31 : SS.2[31]? = some (1, 0) := rfl
theorem dd_32 : SS.2[32]? = some (9, 30) := rfl
theorem dd_33 : SS.2[33]? = some (10, 36) := rfl
theorem dd_34 : SS.2[34]? = some (9, 42) := rfl
theorem dd_35 : SS.2[35]? = some (9, 8) := rfl
theorem dd_36 : SS.2[36]? = some (5, 0) := rfl
theorem dd_37 : SS.2[37]? = some (1, 0) := rfl
theorem dd_38 : SS.2[38]? = some (9, 30) := rfl
theorem dd_39 : SS.2[39]? = some (10, 36) := rfl
theorem dd_40 : SS.2[40]? = some (9, 42) := rfl
theorem dd_41 : SS.2[41]? = some (9, 8) := rfl
theorem dd_42 : SS.2[42]? = some (5, 0) := rfl
theorem dd_43 : SS.2[43]? = some (1, 0) := rfl
theorem dd_44 : SS.2[44]? = some (9, 30) := rfl
theorem dd_45 : SS.2[45]? = some (10, 36) := rfl
theorem dd_46 : SS.2[46]? = some (9, 42) := rfl
theorem dd_47 : SS.2[47]? = some (9, 8) := rfl
theorem dd_48 : SS.2[48]? = some (5, 0) := rfl
theorem dd_49 : SS.2[49]? = some (1, 0) := rfl
theorem dd_50 : SS.2[50]? = some (9, 30) := rfl
theorem dd_51 : SS.2[51]? = some (10, 36) := rfl
theorem dd_52 : SS.2[52]? = some (9, 42) := rfl
theorem dd_53 : SS.2[53]? = some (9, 8) := rfl
theorem dd_54 : SS.2[54]? = some (8, 0) := rfl
theorem dd_55 : SS.2[55]? = some (9, 1285) := rfl
theorem dd_56 : SS.2[56]? = some (9, 1296) := rfl
theorem dd_57 : SS.2[57]? = some (9, 1296) := rfl
theorem dd_58 : SS.2[58]? = some (10, 36) := rfl
theorem dd_59 : SS.2[59]? = some (9, 98) := rfl
theorem dd_60 : SS.2[60]? = some (9, 70) := rfl
theorem dd_61 : SS.2[61]? = some (9, 14) := rfl
theorem dd_62 : SS.2[62]? = some (9, 14) := rfl
theorem dd_63 : SS.2[63]? = some (9, 80) := rfl
theorem dd_64 : SS.2[64]? = some (9, 42) := rfl
theorem rr_0_0 : SS.1 0 0 = some 1 := by decide +kernel
theorem rr_0_1 : SS.1 0 1 = some 7 := by decide +kernel
theorem rr_0_3 : SS.1 0 3 = some 8 := by decide +kernel
theorem rr_0_5 : SS.1 0 5 = some 9 := by decide +kernel
theorem rr_0_6 : SS.1 0 6 = some 11 := by decide +kernel
theorem rr_1_0 : SS.1 1 0 = some 2 := by decide +kernel
theorem rr_1_2 : SS.1 1 2 = some 5 := by decide +kernel
theorem rr_1_3 : SS.1 1 3 = some 6 := by decide +kernel
theorem rr_2_2 : SS.1 2 2 = some 3 := by decide +kernel
theorem rr_2_3 : SS.1 2 3 = some 4 := by decide +kernel
theorem rr_9_1 : SS.1 9 1 = some 10 := by decide +kernel
theorem rr_11_0 : SS.1 11 0 = some 12 := by decide +kernel
theorem rr_11_1 : SS.1 11 1 = some 16 := by decide +kernel
theorem rr_11_6 : SS.1 11 6 = some 23 := by decide +kernel
theorem rr_11_7 : SS.1 11 7 = some 24 := by decide +kernel
theorem rr_11_8 : SS.1 11 8 = some 25 := by decide +kernel
theorem rr_11_9 : SS.1 11 9 = some 26 := by decide +kernel
theorem rr_11_10 : SS.1 11 10 = some 27 := by decide +kernel
theorem rr_11_11 : SS.1 11 11 = some 28 := by decide +kernel
theorem rr_11_15 : SS.1 11 15 = some 29 := by decide +kernel
theorem rr_12_0 : SS.1 12 0 = some 13 := by decide +kernel
theorem rr_12_1 : SS.1 12 1 = some 14 := by decide +kernel
theorem rr_12_2 : SS.1 12 2 = some 15 := by decide +kernel
theorem rr_16_1 : SS.1 16 1 = some 17 := by decide +kernel
theorem rr_16_2 : SS.1 16 2 = some 18 := by decide +kernel
theorem rr_16_3 : SS.1 16 3 = some 19 := by decide +kernel
theorem rr_16_4 : SS.1 16 4 = some 20 := by decide +kernel
theorem rr_16_5 : SS.1 16 5 = some 21 := by decide +kernel
theorem rr_16_6 : SS.1 16 6 = some 22 := by decide +kernel
theorem rr_30_0 : SS.1 30 0 = some 31 := by decide +kernel
theorem rr_30_2 : SS.1 30 2 = some 34 := by decide +kernel
theorem rr_30_3 : SS.1 30 3 = some 35 := by decide +kernel
theorem rr_31_2 : SS.1 31 2 = some 32 := by decide +kernel
theorem rr_31_3 : SS.1 31 3 = some 33 := by decide +kernel
theorem rr_36_0 : SS.1 36 0 = some 37 := by decide +kernel
theorem rr_36_2 : SS.1 36 2 = some 40 := by decide +kernel
theorem rr_36_3 : SS.1 36 3 = some 41 := by decide +kernel
theorem rr_37_2 : SS.1 37 2 = some 38 := by decide +kernel
theorem rr_37_3 : SS.1 37 3 = some 39 := by decide +kernel
theorem rr_42_0 : SS.1 42 0 = some 43 := by decide +kernel
theorem rr_42_2 : SS.1 42 2 = some 46 := by decide +kernel
theorem rr_42_3 : SS.1 42 3 = some 47 := by decide +kernel
theorem rr_43_2 : SS.1 43 2 = some 44 := by decide +kernel
theorem rr_43_3 : SS.1 43 3 = some 45 := by decide +kernel
theorem rr_48_0 : SS.1 48 0 = some 49 := by decide +kernel
theorem rr_48_2 : SS.1 48 2 = some 52 := by decide +kernel
theorem rr_48_3 : SS.1 48 3 = some 53 := by decide +kernel
theorem rr_49_2 : SS.1 49 2 = some 50 := by decide +kernel
theorem rr_49_3 : SS.1 49 3 = some 51 := by decide +kernel
theorem rr_54_0 : SS.1 54 0 = some 55 := by decide +kernel
theorem rr_54_2 : SS.1 54 2 = some 56 := by decide +kernel
theorem rr_54_3 : SS.1 54 3 = some 57 := by decide +kernel
theorem rr_54_4 : SS.1 54 4 = some 58 := by decide +kernel
theorem rr_54_5 : SS.1 54 5 = some 59 := by decide +kernel
theorem rr_54_6 : SS.1 54 6 = some 60 := by decide +kernel
theorem rr_54_8 : SS.1 54 8 = some 61 := by decide +kernel
theorem rr_54_9 : SS.1 54 9 = some 62 := by decide +kernel
theorem rr_54_14 : SS.1 54 14 = some 63 := by decide +kernel
theorem rr_54_17 : SS.1 54 17 = some 64 := by decide +kernel
def isSt (p : Nat) : Prop := p = 1 ∨ p = 30 ∨ p = 36 ∨ p = 42 ∨ p = 48
theorem st_d {p : Nat} (h : isSt p) : SS.2[p]? = some (5, 0) := by rcases h with rfl | rfl | rfl | rfl | rfl <;> rfl
theorem st_d1 {p : Nat} (h : isSt p) : SS.2[p + 1]? = some (1, 0) := by rcases h with rfl | rfl | rfl | rfl | rfl <;> rfl
theorem st_d2 {p : Nat} (h : isSt p) : SS.2[p + 2]? = some (9, 30) := by rcases h with rfl | rfl | rfl | rfl | rfl <;> rfl
theorem st_d3 {p : Nat} (h : isSt p) : SS.2[p + 3]? = some (10, 36) := by rcases h with rfl | rfl | rfl | rfl | rfl <;> rfl
theorem st_d4 {p : Nat} (h : isSt p) : SS.2[p + 4]? = some (9, 42) := by rcases h with rfl | rfl | rfl | rfl | rfl <;> rfl
theorem st_d5 {p : Nat} (h : isSt p) : SS.2[p + 5]? = some (9, 8) := by rcases h with rfl | rfl | rfl | rfl | rfl <;> rfl
theorem st_r0 {p : Nat} (h : isSt p) : SS.1 p 0 = some (p + 1) := by rcases h with rfl | rfl | rfl | rfl | rfl <;> decide +kernel
theorem st_r2 {p : Nat} (h : isSt p) : SS.1 p 2 = some (p + 4) := by rcases h with rfl | rfl | rfl | rfl | rfl <;> decide +kernel
theorem st_r3 {p : Nat} (h : isSt p) : SS.1 p 3 = some (p + 5) := by rcases h with rfl | rfl | rfl | rfl | rfl <;> decide +kernel
theorem st_r4 {p : Nat} (h : isSt p) : SS.1 p 4 = none := by rcases h with rfl | rfl | rfl | rfl | rfl <;> decide +kernel
theorem st_c2 {p : Nat} (h : isSt p) : SS.1 (p + 1) 2 = some (p + 2) := by rcases h with rfl | rfl | rfl | rfl | rfl <;> decide +kernel
theorem st_c3 {p : Nat} (h : isSt p) : SS.1 (p + 1) 3 = some (p + 3) := by rcases h with rfl | rfl | rfl | rfl | rfl <;> decide +kernel
theorem hi_r (i : Nat) : SS.1 7 i = none := by
  unfold SS ssR
  have : ssT.find? (fun t => t.1 == 7 && t.2.1 == i) = none := List.find?_eq_none.mpr (fun t ht => by
    have h7 : t.1 ≠ 7 := by revert t; decide +kernel
    simp [h7])
  simp only [this]
  rfl
theorem isSt_1 : isSt 1 := Or.inl rfl
theorem z_lit {z : Int} (h : (decide (-2147483648 ≤ z) && decide (z < 2147483648)) = true) : zIn z := by
  simp only [Bool.and_eq_true, decide_eq_true_eq] at h
  exact h
theorem Cl_mono {S : zS} {M : zMt} {d mc ms : Nat} {as : List Value} {μ : zMem} {Q Q' : Option Value → zMem → Prop} (h : Cl S M d mc ms as μ Q) (hq : ∀ v μ', Q v μ' → Q' v μ') : Cl S M d mc ms as μ Q' := fun l b bs G =>
  MetFree.mono (h l b bs G) (fun _ _ q => q) (fun _ _ _ _ _ q => q) (fun _ _ _ _ _ q => ⟨⟨q.1.1.elim (fun v r => r.elim (fun μ' w => ⟨v, μ', w.1, hq v μ' w.2.1, w.2.2⟩)), q.1.2⟩, q.2⟩)
/-- the formula of a call may use that what stands stands -/
theorem Cl_sh {S : zS} {M : zMt} {d mc ms : Nat} {as : List Value} {μ : zMem} {Q : Option Value → zMem → Prop} (h : zSh S μ → Cl S M d mc ms as μ Q) : Cl S M d mc ms as μ Q := fun l b bs G => by
  intro p e ha hc hk s m args below hf happ hP hK
  exact h hP.2.2.2 l b bs G p e ha hc hk s m args below hf happ hP hK
/-- a row that isn't among those that stand: its kind, and the index in it -/
def zA (μ : zMem) (p : Nat) (i : Int) : Prop := ∃ n0 : Nat, μ.1[p]? = some (9, n0) ∧ n0 ≤ 2147483647 ∧ 0 ≤ i ∧ i < n0
section ZA
variable {S : zS} {X : zX} {M : zMt} {d mc ms : Nat} {Q : Option Value → zMem → Prop} {pc pc' : Nat} {lo : List (Option Value)} {st : List Value} {μ : zMem} {k n : Nat}
theorem Z_ialoadA {p0 : Nat} {i : Int} (hd : decode M.2.1 pc = .ok (.iaload, 1)) (hp : pc + 1 = pc') (h : zA μ p0 i) (K : Z S X M d mc ms Q pc' lo (vi (gI μ p0 i) :: st) μ k n) : Z S X M d mc ms Q pc lo (vi i :: .ref p0 :: st) μ k n := by
  obtain ⟨n0, h1, h2, h3, h4⟩ := h
  exact Z_iaload hd hp (Or.inr h1) h2 h3 h4 K
theorem Z_iastoreA {p0 : Nat} {i z : Int} (hd : decode M.2.1 pc = .ok (.iastore, 1)) (hp : pc + 1 = pc') (h : zA μ p0 i) (K : Z S X M d mc ms Q pc' lo st (sI μ p0 i z) k n) : Z S X M d mc ms Q pc lo (vi z :: vi i :: .ref p0 :: st) μ k n := by
  obtain ⟨n0, h1, h2, h3, h4⟩ := h
  exact Z_iastore hd hp (Or.inr h1) h2 h3 h4 K
end ZA
end
