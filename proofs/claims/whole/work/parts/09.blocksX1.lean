theorem z_ns {a b : Int} (h : ¬ a = b) : ¬ b = a := fun e => h e.symm
theorem zcmp_in (x y : Int64) : zIn (zcmp x y) := by
  unfold zcmp
  (repeat' split) <;> exact z_lit rfl
section ZC0
variable {S : zS} {X : zX} {M : zMt} {d mc ms : Nat} {Q : Option Value → zMem → Prop} {pc pc' : Nat} {lo : List (Option Value)} {st st0 : List Value} {μ : zMem} {k n : Nat}
theorem Z_callV0 {M' : zMt} {idx p0 c0 n0 : Nat} (as : List Value) (hd : decode M.2.1 pc = .ok (.invokevirtual idx, 3)) (hp : pc + 3 = pc') (hv : zVi M' c0 as.length) (hl : Cond.methodLink M.1.cls idx M'.1 ∈ lw_tbl) (hh : zH S μ p0 c0 n0) (hs : st0 = as.reverse ++ .ref p0 :: st) (hc : (st.map fun v => v.category).sum ≤ 8) (hk : k ≤ mc) (hn : n ≤ ms)
    (K : Cl S M' d 0 0 (.ref p0 :: as) μ (fun v μ' => Z S X M (d + 1) mc ms Q pc' lo (v.toList ++ st) μ' k n)) : Z S X M (d + 1) mc ms Q pc lo st0 μ k n := Z_callV (mc' := 0) (ms' := 0) as hd hp hv hl hh hs hc hk hn K
theorem Z_callS0 {M' : zMt} {idx : Nat} (as : List Value) (hd : decode M.2.1 pc = .ok (.invokestatic idx, 3)) (hp : pc + 3 = pc') (hv : zSt M' as.length) (hl : Cond.methodLink M.1.cls idx M'.1 ∈ lw_tbl) (hs : st0 = as.reverse ++ st) (hc : (st.map fun v => v.category).sum ≤ 8) (hk : k ≤ mc) (hn : n ≤ ms)
    (K : Cl S M' d 0 0 as μ (fun v μ' => Z S X M (d + 1) mc ms Q pc' lo (v.toList ++ st) μ' k n)) : Z S X M (d + 1) mc ms Q pc lo st0 μ k n := Z_callS (mc' := 0) (ms' := 0) as hd hp hv hl hs hc hk hn K
theorem Z_callSN0 {M' : zMt} {idx : Nat} {host : String} (as : List Value) (hd : decode M.2.1 pc = .ok (.invokestatic idx, 3)) (hp : pc + 3 = pc') (hv : zSt M' as.length) (hl : Cond.methodLinkNest M.1.cls idx M'.1 host ∈ lw_n) (hs : st0 = as.reverse ++ st) (hc : (st.map fun v => v.category).sum ≤ 8) (hk : k ≤ mc) (hn : n ≤ ms)
    (K : Cl S M' d 0 0 as μ (fun v μ' => Z S X M (d + 1) mc ms Q pc' lo (v.toList ++ st) μ' k n)) : Z S X M (d + 1) mc ms Q pc lo st0 μ k n := Z_callSN (mc' := 0) (ms' := 0) as hd hp hv hl hs hc hk hn K
end ZC0
abbrev kX0_init (S : zS) (d : Nat) (p0 : Nat) (μ : zMem) (Q : zMem → Prop) : Prop := Cl S mX0_init d 3 2629 [.ref p0] μ (qV Q)
abbrev kX1_freeColumns (d : Nat) (x1 : Int) (x2 : Int) (μ : zMem) (Q : Int64 → zMem → Prop) : Prop := Cl SS mX1_freeColumns d 0 0 [.ref 2, vi x1, vi x2] μ (qL Q)
abbrev kX0_findSpan (d : Nat) (x1 : Int) (y2 : Int64) (μ : zMem) (Q : zMem → Prop) : Prop := Cl SS mX0_findSpan d 0 0 [.ref 12, vi x1, .long (y2)] μ (qV Q)
abbrev kX0_learn (d : Nat) (x2 : Int) (μ : zMem) (Q : zMem → Prop) : Prop := Cl SS mX0_learn d 0 0 [.ref 12, .ref 2, vi x2] μ (qV Q)
abbrev kX0_lengthOf (d : Nat) (x1 : Int) (x2 : Int) (μ : zMem) (Q : Int → zMem → Prop) : Prop := Cl SS mX0_lengthOf d 0 0 [.ref 12, vi x1, vi x2] μ (qI Q)
abbrev kX0_firstOf (d : Nat) (x1 : Int) (x2 : Int) (μ : zMem) (Q : Int → zMem → Prop) : Prop := Cl SS mX0_firstOf d 0 0 [.ref 12, vi x1, vi x2] μ (qI Q)
abbrev kX1_init (S : zS) (d : Nat) (p0 : Nat) (μ : zMem) (Q : zMem → Prop) : Prop := Cl S mX1_init d 2 66 [.ref p0] μ (qV Q)
abbrev kX1_copyFrom (d : Nat) (p0 : Nat) (p1 : Nat) (μ : zMem) (Q : zMem → Prop) : Prop := Cl SS mX1_copyFrom d 0 0 [.ref (p0 + 1), .ref (p1 + 1)] μ (qV Q)
abbrev kX1_belongs (d : Nat) (x0 : Int) (x1 : Int) (x2 : Int) (x3 : Int) (x4 : Int) (x5 : Int) (μ : zMem) (Q : Int → zMem → Prop) : Prop := Cl SS mX1_belongs d 0 0 [vi x0, vi x1, vi x2, vi x3, vi x4, vi x5] μ (qI Q)
abbrev kX1_columnsOf (d : Nat) (x1 : Int) (x2 : Int) (μ : zMem) (Q : Int64 → zMem → Prop) : Prop := Cl SS mX1_columnsOf d 0 0 [.ref 2, vi x1, vi x2] μ (qL Q)
abbrev kX1_toggle (d : Nat) (x1 : Int) (μ : zMem) (Q : zMem → Prop) : Prop := Cl SS mX1_toggle d 0 0 [.ref 2, vi x1] μ (qV Q)
abbrev kX1_append (d : Nat) (x1 : Int) (x2 : Int) (x3 : Int) (x4 : Int) (x5 : Int) (μ : zMem) (Q : zMem → Prop) : Prop := Cl SS mX1_append d 0 0 [.ref 2, vi x1, vi x2, vi x3, vi x4, vi x5] μ (qV Q)
abbrev kX7_isIn (d : Nat) (x0 : Int) (x1 : Int) (x2 : Int) (μ : zMem) (Q : Int → zMem → Prop) : Prop := Cl SS mX7_isIn d 0 0 [vi x0, vi x1, vi x2] μ (qI Q)
abbrev kX7_isBox (d : Nat) (x0 : Int) (x1 : Int) (x2 : Int) (x3 : Int) (μ : zMem) (Q : Int → zMem → Prop) : Prop := Cl SS mX7_isBox d 0 0 [vi x0, vi x1, vi x2, vi x3] μ (qI Q)
abbrev kX1_canShift (d : Nat) (x1 : Int) (x2 : Int) (x3 : Int) (μ : zMem) (Q : Int → zMem → Prop) : Prop := Cl SS mX1_canShift d 0 0 [.ref 2, vi x1, vi x2, vi x3] μ (qI Q)
abbrev kX1_shift (d : Nat) (x1 : Int) (x2 : Int) (x3 : Int) (μ : zMem) (Q : zMem → Prop) : Prop := Cl SS mX1_shift d 0 0 [.ref 2, vi x1, vi x2, vi x3] μ (qV Q)
abbrev kX1_drop (d : Nat) (x1 : Int) (μ : zMem) (Q : zMem → Prop) : Prop := Cl SS mX1_drop d 0 0 [.ref 2, vi x1] μ (qV Q)
abbrev kX1_isFreeAt (d : Nat) (x1 : Int) (x2 : Int) (μ : zMem) (Q : Int → zMem → Prop) : Prop := Cl SS mX1_isFreeAt d 0 0 [.ref 2, vi x1, vi x2] μ (qI Q)
abbrev kJ13_bitCount_95d88 (d : Nat) (y0 : Int64) (μ : zMem) (Q : Int → zMem → Prop) : Prop := Cl SS mJ13_bitCount_95d88 d 0 0 [.long (y0)] μ (qI Q)
abbrev kX1_freeCells (d : Nat) (μ : zMem) (Q : Int → zMem → Prop) : Prop := Cl SS mX1_freeCells d 0 0 [.ref 2] μ (qI Q)
abbrev kX2_init (d : Nat) (p0 : Nat) (x1 : Int) (x2 : Int) (μ : zMem) (Q : zMem → Prop) : Prop := Cl SS mX2_init d 3 173 [.ref p0, vi x1, vi x2] μ (qV Q)
abbrev kX2_putTotals (d : Nat) (p0 : Nat) (x1 : Int) (x2 : Int) (x3 : Int) (x4 : Int) (μ : zMem) (Q : zMem → Prop) : Prop := Cl SS mX2_putTotals d 0 0 [.ref p0, vi x1, vi x2, vi x3, vi x4] μ (qV Q)
abbrev kX3_init (S : zS) (d : Nat) (p0 : Nat) (μ : zMem) (Q : zMem → Prop) : Prop := Cl S mX3_init d 6 448 [.ref p0] μ (qV Q)
abbrev kX5_partOfWord (d : Nat) (x1 : Int) (x2 : Int) (μ : zMem) (Q : Int → zMem → Prop) : Prop := Cl SS mX5_partOfWord d 0 0 [.ref 1, vi x1, vi x2] μ (qI Q)
abbrev kX3_findLastEnds (d : Nat) (μ : zMem) (Q : zMem → Prop) : Prop := Cl SS mX3_findLastEnds d 0 0 [.ref 16, .ref 1] μ (qV Q)
abbrev kX3_measureLines (d : Nat) (μ : zMem) (Q : zMem → Prop) : Prop := Cl SS mX3_measureLines d 0 0 [.ref 16] μ (qV Q)
abbrev kX3_measure (d : Nat) (x2 : Int) (x3 : Int) (μ : zMem) (Q : Int → zMem → Prop) : Prop := Cl SS mX3_measure d 0 0 [.ref 16, .ref 1, vi x2, vi x3] μ (qI Q)
abbrev kX3_widthOf (d : Nat) (x1 : Int) (x2 : Int) (μ : zMem) (Q : Int → zMem → Prop) : Prop := Cl SS mX3_widthOf d 0 0 [.ref 16, vi x1, vi x2] μ (qI Q)
abbrev kX3_heightOf (d : Nat) (x1 : Int) (x2 : Int) (μ : zMem) (Q : Int → zMem → Prop) : Prop := Cl SS mX3_heightOf d 0 0 [.ref 16, vi x1, vi x2] μ (qI Q)
abbrev kX4_init (S : zS) (d : Nat) (p0 : Nat) (μ : zMem) (Q : zMem → Prop) : Prop := Cl S mX4_init d 18 3677 [.ref p0] μ (qV Q)
abbrev kX4_slackOf (d : Nat) (x1 : Int) (x2 : Int) (x3 : Int) (μ : zMem) (Q : Int → zMem → Prop) : Prop := Cl SS mX4_slackOf d 0 0 [.ref 11, vi x1, vi x2, vi x3] μ (qI Q)
abbrev kX4_rowBehind (d : Nat) (x1 : Int) (x2 : Int) (x3 : Int) (μ : zMem) (Q : Int → zMem → Prop) : Prop := Cl SS mX4_rowBehind d 0 0 [.ref 11, vi x1, vi x2, vi x3] μ (qI Q)
abbrev kX4_leastCostFrom (d : Nat) (x1 : Int) (x2 : Int) (μ : zMem) (Q : Int → zMem → Prop) : Prop := Cl SS mX4_leastCostFrom d 0 0 [.ref 11, vi x1, vi x2] μ (qI Q)
abbrev kX4_findLeastCost (d : Nat) (x1 : Int) (x2 : Int) (μ : zMem) (Q : Int → zMem → Prop) : Prop := Cl SS mX4_findLeastCost d 0 0 [.ref 11, vi x1, vi x2] μ (qI Q)
abbrev kX4_findLeastCosts (d : Nat) (μ : zMem) (Q : zMem → Prop) : Prop := Cl SS mX4_findLeastCosts d 0 0 [.ref 11] μ (qV Q)
abbrev kX4_prepare (d : Nat) (x2 : Int) (x3 : Int) (x4 : Int) (μ : zMem) (Q : Int → zMem → Prop) : Prop := Cl SS mX4_prepare d 0 0 [.ref 11, .ref 1, vi x2, vi x3, vi x4] μ (qI Q)
abbrev kX4_keep (d : Nat) (x1 : Int) (x2 : Int) (μ : zMem) (Q : zMem → Prop) : Prop := Cl SS mX4_keep d 0 0 [.ref 11, vi x1, vi x2] μ (qV Q)
abbrev kX4_placeWords (d : Nat) (x1 : Int) (x2 : Int) (x3 : Int) (x4 : Int) (μ : zMem) (Q : zMem → Prop) : Prop := Cl SS mX4_placeWords d 0 0 [.ref 11, vi x1, vi x2, vi x3, vi x4] μ (qV Q)
abbrev kX4_longestTouching (d : Nat) (x1 : Int) (x2 : Int) (x3 : Int) (p4 : Nat) (μ : zMem) (Q : Int → zMem → Prop) : Prop := Cl SS mX4_longestTouching d 0 0 [.ref 11, vi x1, vi x2, vi x3, .ref p4] μ (qI Q)
abbrev kX4_chainFromAbove (d : Nat) (x1 : Int) (μ : zMem) (Q : Int → zMem → Prop) : Prop := Cl SS mX4_chainFromAbove d 0 0 [.ref 11, vi x1] μ (qI Q)
abbrev kX4_tryLine (d : Nat) (x1 : Int) (x2 : Int) (x3 : Int) (x4 : Int) (μ : zMem) (Q : zMem → Prop) : Prop := Cl SS mX4_tryLine d 0 0 [.ref 11, vi x1, vi x2, vi x3, vi x4] μ (qV Q)
abbrev kX4_layFrom (d : Nat) (x1 : Int) (x2 : Int) (x3 : Int) (μ : zMem) (Q : zMem → Prop) : Prop := Cl SS mX4_layFrom d 0 0 [.ref 11, vi x1, vi x2, vi x3] μ (qV Q)
abbrev kX4_run (d : Nat) (x1 : Int) (x2 : Int) (μ : zMem) (Q : zMem → Prop) : Prop := Cl SS mX4_run d 0 0 [.ref 11, vi x1, vi x2] μ (qV Q)
abbrev kX4_hasLayout (d : Nat) (x2 : Int) (x3 : Int) (x4 : Int) (μ : zMem) (Q : Int → zMem → Prop) : Prop := Cl SS mX4_hasLayout d 0 0 [.ref 11, .ref 1, vi x2, vi x3, vi x4] μ (qI Q)
abbrev kX4_countLayouts (d : Nat) (x2 : Int) (μ : zMem) (Q : Int → zMem → Prop) : Prop := Cl SS mX4_countLayouts d 0 0 [.ref 11, .ref 1, vi x2] μ (qI Q)
abbrev kX4_findBest (d : Nat) (x2 : Int) (μ : zMem) (Q : Int → zMem → Prop) : Prop := Cl SS mX4_findBest d 0 0 [.ref 11, .ref 1, vi x2] μ (qI Q)
abbrev kX4_chainFromBelow (d : Nat) (x1 : Int) (x2 : Int) (μ : zMem) (Q : zMem → Prop) : Prop := Cl SS mX4_chainFromBelow d 0 0 [.ref 11, vi x1, vi x2] μ (qV Q)
abbrev kX4_describeLine (d : Nat) (p1 : Nat) (x2 : Int) (x3 : Int) (μ : zMem) (Q : zMem → Prop) : Prop := Cl SS mX4_describeLine d 0 0 [.ref 11, .ref p1, vi x2, vi x3] μ (qV Q)
abbrev kX4_describeWords (d : Nat) (p1 : Nat) (x2 : Int) (μ : zMem) (Q : zMem → Prop) : Prop := Cl SS mX4_describeWords d 0 0 [.ref 11, .ref p1, vi x2] μ (qV Q)
abbrev kX4_describeBest (d : Nat) (x1 : Int) (μ : zMem) (Q : Nat → zMem → Prop) : Prop := Cl SS mX4_describeBest d 4 178 [.ref 11, vi x1] μ (qR Q)
abbrev kJ7_fill_53178 (S : zS) (d : Nat) (p0 : Nat) (x1 : Int) (μ : zMem) (Q : zMem → Prop) : Prop := Cl S mJ7_fill_53178 d 0 0 [.ref p0, vi x1] μ (qV Q)
abbrev kX5_init (S : zS) (d : Nat) (p0 : Nat) (μ : zMem) (Q : zMem → Prop) : Prop := Cl S mX5_init d 5 120 [.ref p0] μ (qV Q)
abbrev kX5_copyFrom (d : Nat) (p0 : Nat) (p1 : Nat) (μ : zMem) (Q : zMem → Prop) : Prop := Cl SS mX5_copyFrom d 0 0 [.ref p0, .ref p1] μ (qV Q)
abbrev kX5_putWord (d : Nat) (x1 : Int) (x2 : Int) (x3 : Int) (x4 : Int) (μ : zMem) (Q : zMem → Prop) : Prop := Cl SS mX5_putWord d 0 0 [.ref 1, vi x1, vi x2, vi x3, vi x4] μ (qV Q)
abbrev kX6_init (S : zS) (d : Nat) (p0 : Nat) (μ : zMem) (Q : zMem → Prop) : Prop := Cl S mX6_init d 1 42 [.ref p0] μ (qV Q)
abbrev kX6_isLetter (d : Nat) (x0 : Int) (μ : zMem) (Q : Int → zMem → Prop) : Prop := Cl SS mX6_isLetter d 0 0 [vi x0] μ (qI Q)
abbrev kX6_addUpTo (d : Nat) (x1 : Int) (x2 : Int) (μ : zMem) (Q : Int → zMem → Prop) : Prop := Cl SS mX6_addUpTo d 0 0 [.ref 9, vi x1, vi x2] μ (qI Q)
abbrev kX6_goTo (d : Nat) (x1 : Int) (μ : zMem) (Q : Int → zMem → Prop) : Prop := Cl SS mX6_goTo d 0 0 [.ref 9, vi x1] μ (qI Q)
abbrev kX6_addLetter (d : Nat) (μ : zMem) (Q : Int → zMem → Prop) : Prop := Cl SS mX6_addLetter d 0 0 [.ref 9] μ (qI Q)
abbrev kX6_beginWord (d : Nat) (μ : zMem) (Q : Int → zMem → Prop) : Prop := Cl SS mX6_beginWord d 0 0 [.ref 9] μ (qI Q)
abbrev kX6_addShout (d : Nat) (μ : zMem) (Q : Int → zMem → Prop) : Prop := Cl SS mX6_addShout d 0 0 [.ref 9] μ (qI Q)
abbrev kX6_accepts (d : Nat) (x1 : Int) (μ : zMem) (Q : Int → zMem → Prop) : Prop := Cl SS mX6_accepts d 0 0 [.ref 9, vi x1] μ (qI Q)
abbrev kX6_read (d : Nat) (x2 : Int) (μ : zMem) (Q : Int → zMem → Prop) : Prop := Cl SS mX6_read d 0 0 [.ref 9, .ref 8, vi x2] μ (qI Q)
abbrev kX7_init (S : zS) (d : Nat) (p0 : Nat) (μ : zMem) (Q : zMem → Prop) : Prop := Cl S mX7_init d 53 4449 [.ref p0] μ (qV Q)
abbrev kX7_dropOldest (d : Nat) (μ : zMem) (Q : zMem → Prop) : Prop := Cl SS mX7_dropOldest d 0 0 [.ref 0] μ (qV Q)
abbrev kX7_remember (d : Nat) (μ : zMem) (Q : zMem → Prop) : Prop := Cl SS mX7_remember d 0 0 [.ref 0] μ (qV Q)
abbrev kX7_addShape (d : Nat) (x1 : Int) (x2 : Int) (x3 : Int) (x4 : Int) (x5 : Int) (μ : zMem) (Q : Int → zMem → Prop) : Prop := Cl SS mX7_addShape d 0 0 [.ref 0, vi x1, vi x2, vi x3, vi x4, vi x5] μ (qI Q)
abbrev kX7_moveShape (d : Nat) (x1 : Int) (x2 : Int) (x3 : Int) (μ : zMem) (Q : Int → zMem → Prop) : Prop := Cl SS mX7_moveShape d 0 0 [.ref 0, vi x1, vi x2, vi x3] μ (qI Q)
abbrev kX7_removeShape (d : Nat) (x1 : Int) (μ : zMem) (Q : Int → zMem → Prop) : Prop := Cl SS mX7_removeShape d 0 0 [.ref 0, vi x1] μ (qI Q)
abbrev kX7_isFree (d : Nat) (x1 : Int) (x2 : Int) (μ : zMem) (Q : Int → zMem → Prop) : Prop := Cl SS mX7_isFree d 0 0 [.ref 0, vi x1, vi x2] μ (qI Q)
abbrev kX7_isBand (d : Nat) (x0 : Int) (x1 : Int) (μ : zMem) (Q : Int → zMem → Prop) : Prop := Cl SS mX7_isBand d 0 0 [vi x0, vi x1] μ (qI Q)
abbrev kX7_span (d : Nat) (x1 : Int) (x2 : Int) (x3 : Int) (μ : zMem) (Q : Int → zMem → Prop) : Prop := Cl SS mX7_span d 0 0 [.ref 0, vi x1, vi x2, vi x3] μ (qI Q)
abbrev kX7_addWord (d : Nat) (x1 : Int) (x2 : Int) (μ : zMem) (Q : Int → zMem → Prop) : Prop := Cl SS mX7_addWord d 0 0 [.ref 0, vi x1, vi x2] μ (qI Q)
abbrev kX7_setWord (d : Nat) (x1 : Int) (x2 : Int) (x3 : Int) (x4 : Int) (μ : zMem) (Q : Int → zMem → Prop) : Prop := Cl SS mX7_setWord d 0 0 [.ref 0, vi x1, vi x2, vi x3, vi x4] μ (qI Q)
abbrev kX7_clearWords (d : Nat) (μ : zMem) (Q : Int → zMem → Prop) : Prop := Cl SS mX7_clearWords d 0 0 [.ref 0] μ (qI Q)
abbrev kX7_setSizes (d : Nat) (x1 : Int) (x2 : Int) (x3 : Int) (x4 : Int) (μ : zMem) (Q : Int → zMem → Prop) : Prop := Cl SS mX7_setSizes d 0 0 [.ref 0, vi x1, vi x2, vi x3, vi x4] μ (qI Q)
abbrev kX7_setLines (d : Nat) (x1 : Int) (x2 : Int) (x3 : Int) (x4 : Int) (μ : zMem) (Q : Int → zMem → Prop) : Prop := Cl SS mX7_setLines d 0 0 [.ref 0, vi x1, vi x2, vi x3, vi x4] μ (qI Q)
abbrev kX7_count (d : Nat) (x1 : Int) (μ : zMem) (Q : Int → zMem → Prop) : Prop := Cl SS mX7_count d 0 0 [.ref 0, vi x1] μ (qI Q)
abbrev kX7_word (d : Nat) (x1 : Int) (x2 : Int) (μ : zMem) (Q : Int → zMem → Prop) : Prop := Cl SS mX7_word d 0 0 [.ref 0, vi x1, vi x2] μ (qI Q)
abbrev kX7_cost (d : Nat) (x1 : Int) (μ : zMem) (Q : Int → zMem → Prop) : Prop := Cl SS mX7_cost d 0 0 [.ref 0, vi x1] μ (qI Q)
abbrev kX7_greatestBase (d : Nat) (x1 : Int) (μ : zMem) (Q : Int → zMem → Prop) : Prop := Cl SS mX7_greatestBase d 0 0 [.ref 0, vi x1] μ (qI Q)
abbrev kX7_fit (d : Nat) (μ : zMem) (Q : Int → zMem → Prop) : Prop := Cl SS mX7_fit d 0 0 [.ref 0] μ (qI Q)
abbrev kX7_allowed (d : Nat) (x1 : Int) (μ : zMem) (Q : Int → zMem → Prop) : Prop := Cl SS mX7_allowed d 0 0 [.ref 0, vi x1] μ (qI Q)
abbrev kX7_take (d : Nat) (x1 : Int) (μ : zMem) (Q : Int → zMem → Prop) : Prop := Cl SS mX7_take d 4 178 [.ref 0, vi x1] μ (qI Q)
abbrev kX7_widestStep (d : Nat) (x1 : Int) (μ : zMem) (Q : Int → zMem → Prop) : Prop := Cl SS mX7_widestStep d 0 0 [.ref 0, vi x1] μ (qI Q)
abbrev kX7_tightestLimit (d : Nat) (μ : zMem) (Q : Int → zMem → Prop) : Prop := Cl SS mX7_tightestLimit d 0 0 [.ref 0] μ (qI Q)
abbrev kX7_layout (d : Nat) (x1 : Int) (μ : zMem) (Q : Int → zMem → Prop) : Prop := Cl SS mX7_layout d 0 0 [.ref 0, vi x1] μ (qI Q)
abbrev kX7_line (d : Nat) (x1 : Int) (x2 : Int) (μ : zMem) (Q : Int → zMem → Prop) : Prop := Cl SS mX7_line d 0 0 [.ref 0, vi x1, vi x2] μ (qI Q)
abbrev kX7_placed (d : Nat) (x1 : Int) (x2 : Int) (μ : zMem) (Q : Int → zMem → Prop) : Prop := Cl SS mX7_placed d 0 0 [.ref 0, vi x1, vi x2] μ (qI Q)
abbrev kX7_type (d : Nat) (x1 : Int) (μ : zMem) (Q : Int → zMem → Prop) : Prop := Cl SS mX7_type d 0 0 [.ref 0, vi x1] μ (qI Q)
abbrev kX7_clearText (d : Nat) (μ : zMem) (Q : Int → zMem → Prop) : Prop := Cl SS mX7_clearText d 0 0 [.ref 0] μ (qI Q)
abbrev kX7_textFault (d : Nat) (μ : zMem) (Q : Int → zMem → Prop) : Prop := Cl SS mX7_textFault d 0 0 [.ref 0] μ (qI Q)
abbrev kX7_load (d : Nat) (μ : zMem) (Q : Int → zMem → Prop) : Prop := Cl SS mX7_load d 0 0 [.ref 0] μ (qI Q)
abbrev kX7_undo (d : Nat) (μ : zMem) (Q : Int → zMem → Prop) : Prop := Cl SS mX7_undo d 0 0 [.ref 0] μ (qI Q)
abbrev kX7_addAll (d : Nat) (y0 : Int64) (p2 : Nat) (x3 : Int) (μ : zMem) (Q : Int64 → zMem → Prop) : Prop := Cl SS mX7_addAll d 0 0 [.long (y0), .ref p2, vi x3] μ (qL Q)
abbrev kX7_digest (d : Nat) (μ : zMem) (Q : Int64 → zMem → Prop) : Prop := Cl SS mX7_digest d 0 0 [.ref 0] μ (qL Q)
theorem bX0_init {S : zS} {d : Nat} {Q : zMem → Prop} {μ : zMem} {p0 : Nat} (P : (0 + 1 ≤ 3) ∧ ((0 + 1296 ≤ 2629) ∧ (∀ q1 : Nat, q1 = (gD μ).length → (((gD (aD μ 9 1296))[p0]? = some (0, 0)) ∧ ((S.1 p0 0 = none ∨ S.1 p0 0 = some q1) ∧ (((0 + 1) + 1 ≤ 3) ∧ (((0 + 1296) + 1296 ≤ 2629) ∧ (∀ q7 : Nat, q7 = (gD (sR (aD μ 9 1296) p0 0 (some q1))).length → (((gD (aD (sR (aD μ 9 1296) p0 0 (some q1)) 9 1296))[p0]? = some (0, 0)) ∧ ((S.1 p0 1 = none ∨ S.1 p0 1 = some q7) ∧ ((((0 + 1) + 1) + 1 ≤ 3) ∧ ((((0 + 1296) + 1296) + 37 ≤ 2629) ∧ (∀ q13 : Nat, q13 = (gD (sR (aD (sR (aD μ 9 1296) p0 0 (some q1)) 9 1296) p0 1 (some q7))).length → (((gD (aD (sR (aD (sR (aD μ 9 1296) p0 0 (some q1)) 9 1296) p0 1 (some q7)) 9 37))[p0]? = some (0, 0)) ∧ ((S.1 p0 2 = none ∨ S.1 p0 2 = some q13) ∧ (((((0 + 1) + 1) + 1) ≤ 3) ∧ (((((0 + 1296) + 1296) + 37) ≤ 2629) ∧ (Q (sR (aD (sR (aD (sR (aD μ 9 1296) p0 0 (some q1)) 9 1296) p0 1 (some q7)) 9 37) p0 2 (some q13)))))))))))))))))))) : kX0_init S (d + 1) p0 μ Q := by
  refine Cl_of rfl (Nat.le_of_ble_eq_true rfl) rfl ?_
  show Z S none mX0_init (d + 1) 3 2629 (qV Q) 0 [some (.ref p0)] [] μ 0 0
  refine Z_aload_n (pc' := 1) dX0_init_0 rfl rfl ?_
  refine Z_objInit (pc' := 4) dX0_init_1 rfl lX0_3 l_oi l_oc (Nat.le_of_ble_eq_true rfl) ?_
  refine Z_aload_n (pc' := 5) dX0_init_4 rfl rfl ?_
  refine Z_sipush (pc' := 8) dX0_init_5 rfl rfl ?_
  obtain ⟨q1, h2⟩ : ∃ q : Nat, q = (gD μ).length := ⟨_, rfl⟩
  have h3 := P.1
  have P := P.2
  have h4 := P.1
  have P := P.2
  refine Z_newI (pc' := 10) dX0_init_8 rfl (by decide) (by decide) h3 h4 l_ai ?_
  show Z S none mX0_init (d + 1) 3 2629 (qV Q) 10 _ _ (aD μ 9 1296) (0 + 1) (0 + 1296)
  rw [← h2]
  have P := P q1 h2
  have h5 := P.1
  have P := P.2
  have h6 := P.1
  have P := P.2
  refine Z_putR' (ji := 0) (pc' := 13) dX0_init_10 rfl rfl fX0_9 (Or.inr ⟨rfl, rfl⟩) rfl (Or.inr h5) h6 ?_
  refine Z_aload_n (pc' := 14) dX0_init_13 rfl rfl ?_
  refine Z_sipush (pc' := 17) dX0_init_14 rfl rfl ?_
  obtain ⟨q7, h8⟩ : ∃ q : Nat, q = (gD (sR (aD μ 9 1296) p0 0 (some q1))).length := ⟨_, rfl⟩
  have h9 := P.1
  have P := P.2
  have h10 := P.1
  have P := P.2
  refine Z_newI (pc' := 19) dX0_init_17 rfl (by decide) (by decide) h9 h10 l_ai ?_
  show Z S none mX0_init (d + 1) 3 2629 (qV Q) 19 _ _ (aD (sR (aD μ 9 1296) p0 0 (some q1)) 9 1296) ((0 + 1) + 1) ((0 + 1296) + 1296)
  rw [← h8]
  have P := P q7 h8
  have h11 := P.1
  have P := P.2
  have h12 := P.1
  have P := P.2
  refine Z_putR' (ji := 1) (pc' := 22) dX0_init_19 rfl rfl fX0_15 (Or.inr ⟨rfl, rfl⟩) rfl (Or.inr h11) h12 ?_
  refine Z_aload_n (pc' := 23) dX0_init_22 rfl rfl ?_
  refine Z_bipush (pc' := 25) dX0_init_23 rfl rfl ?_
  obtain ⟨q13, h14⟩ : ∃ q : Nat, q = (gD (sR (aD (sR (aD μ 9 1296) p0 0 (some q1)) 9 1296) p0 1 (some q7))).length := ⟨_, rfl⟩
  have h15 := P.1
  have P := P.2
  have h16 := P.1
  have P := P.2
  refine Z_newI (pc' := 27) dX0_init_25 rfl (by decide) (by decide) h15 h16 l_ai ?_
  show Z S none mX0_init (d + 1) 3 2629 (qV Q) 27 _ _ (aD (sR (aD (sR (aD μ 9 1296) p0 0 (some q1)) 9 1296) p0 1 (some q7)) 9 37) (((0 + 1) + 1) + 1) (((0 + 1296) + 1296) + 37)
  rw [← h14]
  have P := P q13 h14
  have h17 := P.1
  have P := P.2
  have h18 := P.1
  have P := P.2
  refine Z_putR' (ji := 2) (pc' := 30) dX0_init_27 rfl rfl fX0_18 (Or.inr ⟨rfl, rfl⟩) rfl (Or.inr h17) h18 ?_
  have h19 := P.1
  have P := P.2
  have h20 := P.1
  have P := P.2
  exact Z_return dX0_init_30 rfl h19 h20 P
abbrev zX1_freeColumns_12 (d : Nat) (Q : Int64 → zMem → Prop) (x1 : Int) (x2 : Int) (y3 : Int64) (x5 : Int) (μ : zMem) : Prop := Z SS none mX1_freeColumns d 0 0 (qL Q) 12 [some (.ref 2), some (vi x1), some (vi x2), some (.long (y3)), none, some (vi x5)] [] μ 0 0
theorem bX1_freeColumns {d : Nat} {Q : Int64 → zMem → Prop} {μ : zMem} {x1 : Int} {x2 : Int} (P : (0 ≤ x1) ∧ ((x1 < 36) ∧ (zX1_freeColumns_12 d Q x1 x2 (gL μ 4 x1) (x1 + 1) μ))) : kX1_freeColumns d x1 x2 μ Q := by
  refine Cl_of rfl (Nat.le_of_ble_eq_true rfl) rfl ?_
  show Z SS none mX1_freeColumns d 0 0 (qL Q) 0 [some (.ref 2), some (vi x1), some (vi x2), none, none, none] [] μ 0 0
  refine Z_aload_n (pc' := 1) dX1_freeColumns_0 rfl rfl ?_
  refine Z_getR (q := 4) (pc' := 4) dX1_freeColumns_1 rfl fX1_22 rfl (Or.inl dd_2) (Or.inl rr_2_3) ?_
  refine Z_iload_n (pc' := 5) dX1_freeColumns_4 rfl rfl ?_
  have h1 := P.1
  have P := P.2
  have h2 := P.1
  have P := P.2
  refine Z_laload (pc' := 6) dX1_freeColumns_5 rfl (Or.inl dd_4) (Nat.le_of_ble_eq_true rfl) h1 h2 ?_
  refine Z_lstore_n (pc' := 7) (lo' := [some (.ref 2), some (vi x1), some (vi x2), some (.long ((gL μ 4 x1))), none, none]) dX1_freeColumns_6 rfl (by decide) rfl ?_
  refine Z_iload_n (pc' := 8) dX1_freeColumns_7 rfl rfl ?_
  refine Z_iconst (pc' := 9) dX1_freeColumns_8 rfl ?_
  refine Z_iadd (pc' := 10) dX1_freeColumns_9 rfl ?_
  refine Z_istore (pc' := 12) (lo' := [some (.ref 2), some (vi x1), some (vi x2), some (.long ((gL μ 4 x1))), none, some (vi (x1 + 1))]) dX1_freeColumns_10 rfl (by decide) rfl ?_
  exact P
theorem bX1_freeColumns_12 {d : Nat} {Q : Int64 → zMem → Prop} {μ : zMem} {x1 : Int} {x2 : Int} {y3 : Int64} {x5 : Int} (P : (zIn x5) ∧ ((zIn (x1 + x2)) ∧ (((x1 + x2) ≤ x5 → (Q y3 μ)) ∧ (¬ ((x1 + x2) ≤ x5) → ((0 ≤ x5) ∧ ((x5 < 36) ∧ (zX1_freeColumns_12 d Q x1 x2 (y3 &&& (gL μ 4 x5)) (x5 + 1) μ))))))) : zX1_freeColumns_12 d Q x1 x2 y3 x5 μ := by
  refine Z_iload (pc' := 14) dX1_freeColumns_12 rfl rfl ?_
  refine Z_iload_n (pc' := 15) dX1_freeColumns_14 rfl rfl ?_
  refine Z_iload_n (pc' := 16) dX1_freeColumns_15 rfl rfl ?_
  refine Z_iadd (pc' := 17) dX1_freeColumns_16 rfl ?_
  have h1 := P.1
  have P := P.2
  have h2 := P.1
  have P := P.2
  refine Z_icmp_ge (tgt := 36) (pc' := 20) dX1_freeColumns_17 (by decide) rfl h1 h2 (fun c3 => ?_) (fun c3 => ?_)
  · have P := P.1 c3
    refine Z_lload_n (pc' := 37) dX1_freeColumns_36 rfl rfl ?_
    exact Z_lreturn dX1_freeColumns_37 rfl (Nat.le_refl 0) (Nat.le_refl 0) P
  · have P := P.2 c3
    refine Z_lload_n (pc' := 21) dX1_freeColumns_20 rfl rfl ?_
    refine Z_aload_n (pc' := 22) dX1_freeColumns_21 rfl rfl ?_
    refine Z_getR (q := 4) (pc' := 25) dX1_freeColumns_22 rfl fX1_22 rfl (Or.inl dd_2) (Or.inl rr_2_3) ?_
    refine Z_iload (pc' := 27) dX1_freeColumns_25 rfl rfl ?_
    have h4 := P.1
    have P := P.2
    have h5 := P.1
    have P := P.2
    refine Z_laload (pc' := 28) dX1_freeColumns_27 rfl (Or.inl dd_4) (Nat.le_of_ble_eq_true rfl) h4 h5 ?_
    refine Z_land (pc' := 29) dX1_freeColumns_28 rfl ?_
    refine Z_lstore_n (pc' := 30) (lo' := [some (.ref 2), some (vi x1), some (vi x2), some (.long ((y3 &&& (gL μ 4 x5)))), none, some (vi x5)]) dX1_freeColumns_29 rfl (by decide) rfl ?_
    refine Z_iinc (pc' := 33) (lo' := [some (.ref 2), some (vi x1), some (vi x2), some (.long ((y3 &&& (gL μ 4 x5)))), none, some (vi (x5 + 1))]) dX1_freeColumns_30 rfl (by decide) rfl rfl ?_
    refine Z_goto (tgt := 12) dX1_freeColumns_33 (by decide) ?_
    exact P
abbrev zX0_findSpan_12 (d : Nat) (Q : zMem → Prop) (x1 : Int) (y2 : Int64) (x4 : Int) (x5 : Int) (x6 : Int) (x7 : Int) (μ : zMem) : Prop := Z SS none mX0_findSpan d 0 0 (qV Q) 12 [some (.ref 12), some (vi x1), some (.long (y2)), none, some (vi x4), some (vi x5), some (vi x6), some (vi x7)] [] μ 0 0
theorem bX0_findSpan {d : Nat} {Q : zMem → Prop} {μ : zMem} {x1 : Int} {y2 : Int64} (P : zX0_findSpan_12 d Q x1 y2 0 (-1) 0 0 μ) : kX0_findSpan d x1 y2 μ Q := by
  refine Cl_of rfl (Nat.le_of_ble_eq_true rfl) rfl ?_
  show Z SS none mX0_findSpan d 0 0 (qV Q) 0 [some (.ref 12), some (vi x1), some (.long (y2)), none, none, none, none, none] [] μ 0 0
  refine Z_iconst (pc' := 1) dX0_findSpan_0 rfl ?_
  refine Z_istore (pc' := 3) (lo' := [some (.ref 12), some (vi x1), some (.long (y2)), none, some (vi 0), none, none, none]) dX0_findSpan_1 rfl (by decide) rfl ?_
  refine Z_iconst (pc' := 4) dX0_findSpan_3 rfl ?_
  refine Z_istore (pc' := 6) (lo' := [some (.ref 12), some (vi x1), some (.long (y2)), none, some (vi 0), some (vi (-1)), none, none]) dX0_findSpan_4 rfl (by decide) rfl ?_
  refine Z_iconst (pc' := 7) dX0_findSpan_6 rfl ?_
  refine Z_istore (pc' := 9) (lo' := [some (.ref 12), some (vi x1), some (.long (y2)), none, some (vi 0), some (vi (-1)), some (vi 0), none]) dX0_findSpan_7 rfl (by decide) rfl ?_
  refine Z_iconst (pc' := 10) dX0_findSpan_9 rfl ?_
  refine Z_istore (pc' := 12) (lo' := [some (.ref 12), some (vi x1), some (.long (y2)), none, some (vi 0), some (vi (-1)), some (vi 0), some (vi 0)]) dX0_findSpan_10 rfl (by decide) rfl ?_
  exact P
theorem bX0_findSpan_12 {d : Nat} {Q : zMem → Prop} {μ : zMem} {x1 : Int} {y2 : Int64} {x4 : Int} {x5 : Int} {x6 : Int} {x7 : Int} (P : (zIn x7) ∧ ((48 ≤ x7 → ((0 ≤ x1) ∧ ((x1 < 1296) ∧ (Q (sI (sI μ 13 x1 x4) 14 x1 x5))))) ∧ (¬ (48 ≤ x7) → (((zIn (if (zcmp ((y2 >>> ((Int32.ofInt x7).toInt64 &&& 63)) &&& (1 : Int64)) (0 : Int64)) = 0 then 0 else (x6 + 1))) ∧ ((zIn x4))) ∧ (zX0_findSpan_12 d Q x1 y2 (if (if (zcmp ((y2 >>> ((Int32.ofInt x7).toInt64 &&& 63)) &&& (1 : Int64)) (0 : Int64)) = 0 then 0 else (x6 + 1)) ≤ x4 then x4 else (if (zcmp ((y2 >>> ((Int32.ofInt x7).toInt64 &&& 63)) &&& (1 : Int64)) (0 : Int64)) = 0 then 0 else (x6 + 1))) (if (if (zcmp ((y2 >>> ((Int32.ofInt x7).toInt64 &&& 63)) &&& (1 : Int64)) (0 : Int64)) = 0 then 0 else (x6 + 1)) ≤ x4 then x5 else ((x7 - (if (zcmp ((y2 >>> ((Int32.ofInt x7).toInt64 &&& 63)) &&& (1 : Int64)) (0 : Int64)) = 0 then 0 else (x6 + 1))) + 1)) (if (zcmp ((y2 >>> ((Int32.ofInt x7).toInt64 &&& 63)) &&& (1 : Int64)) (0 : Int64)) = 0 then 0 else (x6 + 1)) (x7 + 1) μ))))) : zX0_findSpan_12 d Q x1 y2 x4 x5 x6 x7 μ := by
  refine Z_iload (pc' := 14) dX0_findSpan_12 rfl rfl ?_
  refine Z_bipush (pc' := 16) dX0_findSpan_14 rfl rfl ?_
  have h1 := P.1
  have P := P.2
  refine Z_icmp_ge (tgt := 66) (pc' := 19) dX0_findSpan_16 (by decide) rfl h1 (z_lit rfl) (fun c2 => ?_) (fun c2 => ?_)
  · have P := P.1 c2
    refine Z_aload_n (pc' := 67) dX0_findSpan_66 rfl rfl ?_
    refine Z_getR (q := 13) (pc' := 70) dX0_findSpan_67 rfl fX0_9 rfl (Or.inl dd_12) (Or.inl rr_12_0) ?_
    refine Z_iload_n (pc' := 71) dX0_findSpan_70 rfl rfl ?_
    refine Z_iload (pc' := 73) dX0_findSpan_71 rfl rfl ?_
    have h3 := P.1
    have P := P.2
    have h4 := P.1
    have P := P.2
    refine Z_iastore (pc' := 74) dX0_findSpan_73 rfl (Or.inl dd_13) (Nat.le_of_ble_eq_true rfl) h3 h4 ?_
    refine Z_aload_n (pc' := 75) dX0_findSpan_74 rfl rfl ?_
    refine Z_getR (q := 14) (pc' := 78) dX0_findSpan_75 rfl fX0_15 rfl (Or.inl dd_12) (Or.inl rr_12_1) ?_
    refine Z_iload_n (pc' := 79) dX0_findSpan_78 rfl rfl ?_
    refine Z_iload (pc' := 81) dX0_findSpan_79 rfl rfl ?_
    refine Z_iastore (pc' := 82) dX0_findSpan_81 rfl (Or.inl dd_14) (Nat.le_of_ble_eq_true rfl) h3 h4 ?_
    exact Z_return dX0_findSpan_82 rfl (Nat.le_refl 0) (Nat.le_refl 0) P
  · have P := P.2 c2
    refine Z_lload_n (pc' := 20) dX0_findSpan_19 rfl rfl ?_
    refine Z_iload (pc' := 22) dX0_findSpan_20 rfl rfl ?_
    refine Z_lshr (pc' := 23) dX0_findSpan_22 rfl ?_
    refine Z_lconst (pc' := 24) (v := 1) dX0_findSpan_23 rfl rfl ?_
    refine Z_land (pc' := 25) dX0_findSpan_24 rfl ?_
    refine Z_lconst (pc' := 26) (v := 0) dX0_findSpan_25 rfl rfl ?_
    refine Z_lcmp (pc' := 27) dX0_findSpan_26 rfl ?_
    have K : ∀ t6 : Int, t6 = (if (zcmp ((y2 >>> ((Int32.ofInt x7).toInt64 &&& 63)) &&& (1 : Int64)) (0 : Int64)) = 0 then 0 else (x6 + 1)) → Z SS none mX0_findSpan d 0 0 (qV Q) 38 [some (.ref 12), some (vi x1), some (.long (y2)), none, some (vi x4), some (vi x5), some (vi x6), some (vi x7)] [vi t6] μ 0 0 := by
      rintro _ rfl
      refine Z_istore (pc' := 40) (lo' := [some (.ref 12), some (vi x1), some (.long (y2)), none, some (vi x4), some (vi x5), some (vi (if (zcmp ((y2 >>> ((Int32.ofInt x7).toInt64 &&& 63)) &&& (1 : Int64)) (0 : Int64)) = 0 then 0 else (x6 + 1))), some (vi x7)]) dX0_findSpan_38 rfl (by decide) rfl ?_
      refine Z_iload (pc' := 42) dX0_findSpan_40 rfl rfl ?_
      refine Z_iload (pc' := 44) dX0_findSpan_42 rfl rfl ?_
      have K : ∀ t10 : Int, t10 = (if (if (zcmp ((y2 >>> ((Int32.ofInt x7).toInt64 &&& 63)) &&& (1 : Int64)) (0 : Int64)) = 0 then 0 else (x6 + 1)) ≤ x4 then x4 else (if (zcmp ((y2 >>> ((Int32.ofInt x7).toInt64 &&& 63)) &&& (1 : Int64)) (0 : Int64)) = 0 then 0 else (x6 + 1))) → ∀ t11 : Int, t11 = (if (if (zcmp ((y2 >>> ((Int32.ofInt x7).toInt64 &&& 63)) &&& (1 : Int64)) (0 : Int64)) = 0 then 0 else (x6 + 1)) ≤ x4 then x5 else ((x7 - (if (zcmp ((y2 >>> ((Int32.ofInt x7).toInt64 &&& 63)) &&& (1 : Int64)) (0 : Int64)) = 0 then 0 else (x6 + 1))) + 1)) → Z SS none mX0_findSpan d 0 0 (qV Q) 60 [some (.ref 12), some (vi x1), some (.long (y2)), none, some (vi t10), some (vi t11), some (vi (if (zcmp ((y2 >>> ((Int32.ofInt x7).toInt64 &&& 63)) &&& (1 : Int64)) (0 : Int64)) = 0 then 0 else (x6 + 1))), some (vi x7)] [] μ 0 0 := by
        rintro _ rfl _ rfl
        have P := P.2
        refine Z_iinc (pc' := 63) (lo' := [some (.ref 12), some (vi x1), some (.long (y2)), none, some (vi (if (if (zcmp ((y2 >>> ((Int32.ofInt x7).toInt64 &&& 63)) &&& (1 : Int64)) (0 : Int64)) = 0 then 0 else (x6 + 1)) ≤ x4 then x4 else (if (zcmp ((y2 >>> ((Int32.ofInt x7).toInt64 &&& 63)) &&& (1 : Int64)) (0 : Int64)) = 0 then 0 else (x6 + 1)))), some (vi (if (if (zcmp ((y2 >>> ((Int32.ofInt x7).toInt64 &&& 63)) &&& (1 : Int64)) (0 : Int64)) = 0 then 0 else (x6 + 1)) ≤ x4 then x5 else ((x7 - (if (zcmp ((y2 >>> ((Int32.ofInt x7).toInt64 &&& 63)) &&& (1 : Int64)) (0 : Int64)) = 0 then 0 else (x6 + 1))) + 1))), some (vi (if (zcmp ((y2 >>> ((Int32.ofInt x7).toInt64 &&& 63)) &&& (1 : Int64)) (0 : Int64)) = 0 then 0 else (x6 + 1))), some (vi (x7 + 1))]) dX0_findSpan_60 rfl (by decide) rfl rfl ?_
        refine Z_goto (tgt := 12) dX0_findSpan_63 (by decide) ?_
        exact P
      have G := P.1
      have h7 := G.1
      have G := G.2
      have h8 := G
      refine Z_icmp_le (tgt := 60) (pc' := 47) dX0_findSpan_44 (by decide) rfl h7 h8 (fun c9 => ?_) (fun c9 => ?_)
      · refine Z_wk [true, true, true, false, true, true, true, true] rfl ?_
        exact K _ (by rw [if_pos c9]) _ (by rw [if_pos c9])
      · refine Z_iload (pc' := 49) dX0_findSpan_47 rfl rfl ?_
        refine Z_istore (pc' := 51) (lo' := [some (.ref 12), some (vi x1), some (.long (y2)), none, some (vi (if (zcmp ((y2 >>> ((Int32.ofInt x7).toInt64 &&& 63)) &&& (1 : Int64)) (0 : Int64)) = 0 then 0 else (x6 + 1))), some (vi x5), some (vi (if (zcmp ((y2 >>> ((Int32.ofInt x7).toInt64 &&& 63)) &&& (1 : Int64)) (0 : Int64)) = 0 then 0 else (x6 + 1))), some (vi x7)]) dX0_findSpan_49 rfl (by decide) rfl ?_
        refine Z_iload (pc' := 53) dX0_findSpan_51 rfl rfl ?_
        refine Z_iload (pc' := 55) dX0_findSpan_53 rfl rfl ?_
        refine Z_isub (pc' := 56) dX0_findSpan_55 rfl ?_
        refine Z_iconst (pc' := 57) dX0_findSpan_56 rfl ?_
        refine Z_iadd (pc' := 58) dX0_findSpan_57 rfl ?_
        refine Z_istore (pc' := 60) (lo' := [some (.ref 12), some (vi x1), some (.long (y2)), none, some (vi (if (zcmp ((y2 >>> ((Int32.ofInt x7).toInt64 &&& 63)) &&& (1 : Int64)) (0 : Int64)) = 0 then 0 else (x6 + 1))), some (vi ((x7 - (if (zcmp ((y2 >>> ((Int32.ofInt x7).toInt64 &&& 63)) &&& (1 : Int64)) (0 : Int64)) = 0 then 0 else (x6 + 1))) + 1)), some (vi (if (zcmp ((y2 >>> ((Int32.ofInt x7).toInt64 &&& 63)) &&& (1 : Int64)) (0 : Int64)) = 0 then 0 else (x6 + 1))), some (vi x7)]) dX0_findSpan_58 rfl (by decide) rfl ?_
        refine Z_wk [true, true, true, false, true, true, true, true] rfl ?_
        exact K _ (by rw [if_neg c9]) _ (by rw [if_neg c9])
    refine Z_if_eq (tgt := 37) (pc' := 30) dX0_findSpan_27 (by decide) rfl (zcmp_in _ _) (fun c5 => ?_) (fun c5 => ?_)
    · refine Z_iconst (pc' := 38) dX0_findSpan_37 rfl ?_
      refine Z_wk [true, true, true, false, true, true, true, true] rfl ?_
      exact K _ (by rw [if_pos c5])
    · refine Z_iload (pc' := 32) dX0_findSpan_30 rfl rfl ?_
      refine Z_iconst (pc' := 33) dX0_findSpan_32 rfl ?_
      refine Z_iadd (pc' := 34) dX0_findSpan_33 rfl ?_
      refine Z_goto (tgt := 38) dX0_findSpan_34 (by decide) ?_
      refine Z_wk [true, true, true, false, true, true, true, true] rfl ?_
      exact K _ (by rw [if_neg c5])
abbrev zX0_learn_16 (d : Nat) (Q : zMem → Prop) (x2 : Int) (x3 : Int) (μ : zMem) : Prop := Z SS none mX0_learn (d + 1) 0 0 (qV Q) 16 [some (.ref 12), some (.ref 2), some (vi x2), some (vi x3)] [] μ 0 0
theorem bX0_learn {d : Nat} {Q : zMem → Prop} {μ : zMem} {x2 : Int} (P : (0 ≤ x2) ∧ ((x2 < 37) ∧ ((zIn (gI μ 15 x2)) ∧ ((zIn (gI μ 2 1)) ∧ (((gI μ 15 x2) = (gI μ 2 1) → (Q μ)) ∧ (¬ ((gI μ 15 x2) = (gI μ 2 1)) → (zX0_learn_16 d Q x2 0 μ))))))) : kX0_learn (d + 1) x2 μ Q := by
  refine Cl_of rfl (Nat.le_of_ble_eq_true rfl) rfl ?_
  show Z SS none mX0_learn (d + 1) 0 0 (qV Q) 0 [some (.ref 12), some (.ref 2), some (vi x2), none] [] μ 0 0
  refine Z_aload_n (pc' := 1) dX0_learn_0 rfl rfl ?_
  refine Z_getR (q := 15) (pc' := 4) dX0_learn_1 rfl fX0_18 rfl (Or.inl dd_12) (Or.inl rr_12_2) ?_
  refine Z_iload_n (pc' := 5) dX0_learn_4 rfl rfl ?_
  have h1 := P.1
  have P := P.2
  have h2 := P.1
  have P := P.2
  refine Z_iaload (pc' := 6) dX0_learn_5 rfl (Or.inl dd_15) (Nat.le_of_ble_eq_true rfl) h1 h2 ?_
  refine Z_aload_n (pc' := 7) dX0_learn_6 rfl rfl ?_
  refine Z_getI' (ji := 1) (pc' := 10) dX0_learn_7 rfl rfl fX0_21 rfl (Or.inl dd_2) ?_
  have h3 := P.1
  have P := P.2
  have h4 := P.1
  have P := P.2
  refine Z_icmp_ne (tgt := 14) (pc' := 13) dX0_learn_10 (by decide) rfl h3 h4 (fun c5 => ?_) (fun c5 => ?_)
  · have P := P.2 c5
    refine Z_iconst (pc' := 15) dX0_learn_14 rfl ?_
    refine Z_istore_n (pc' := 16) (lo' := [some (.ref 12), some (.ref 2), some (vi x2), some (vi 0)]) dX0_learn_15 rfl (by decide) rfl ?_
    exact P
  · have P := P.1 c5
    exact Z_return dX0_learn_13 rfl (Nat.le_refl 0) (Nat.le_refl 0) P
theorem bX0_learn_16 {d : Nat} {Q : zMem → Prop} {μ : zMem} {x2 : Int} {x3 : Int} (P : (zIn (x3 + x2)) ∧ ((36 < (x3 + x2) → ((0 ≤ x2) ∧ ((x2 < 37) ∧ (Q (sI μ 15 x2 (gI μ 2 1)))))) ∧ (¬ (36 < (x3 + x2)) → (kX1_freeColumns d x3 x2 μ (fun (r6 : Int64) (μ5 : zMem) => kX0_findSpan d (((x3 * 36) + x2) - 1) r6 μ5 (fun μ7 : zMem => zX0_learn_16 d Q x2 (x3 + 1) μ7)))))) : zX0_learn_16 d Q x2 x3 μ := by
  refine Z_iload_n (pc' := 17) dX0_learn_16 rfl rfl ?_
  refine Z_iload_n (pc' := 18) dX0_learn_17 rfl rfl ?_
  refine Z_iadd (pc' := 19) dX0_learn_18 rfl ?_
  refine Z_bipush (pc' := 21) dX0_learn_19 rfl rfl ?_
  have h1 := P.1
  have P := P.2
  refine Z_icmp_gt (tgt := 48) (pc' := 24) dX0_learn_21 (by decide) rfl h1 (z_lit rfl) (fun c2 => ?_) (fun c2 => ?_)
  · have P := P.1 c2
    refine Z_aload_n (pc' := 49) dX0_learn_48 rfl rfl ?_
    refine Z_getR (q := 15) (pc' := 52) dX0_learn_49 rfl fX0_18 rfl (Or.inl dd_12) (Or.inl rr_12_2) ?_
    refine Z_iload_n (pc' := 53) dX0_learn_52 rfl rfl ?_
    refine Z_aload_n (pc' := 54) dX0_learn_53 rfl rfl ?_
    refine Z_getI' (ji := 1) (pc' := 57) dX0_learn_54 rfl rfl fX0_21 rfl (Or.inl dd_2) ?_
    have h3 := P.1
    have P := P.2
    have h4 := P.1
    have P := P.2
    refine Z_iastore (pc' := 58) dX0_learn_57 rfl (Or.inl dd_15) (Nat.le_of_ble_eq_true rfl) h3 h4 ?_
    exact Z_return dX0_learn_58 rfl (Nat.le_refl 0) (Nat.le_refl 0) P
  · have P := P.2 c2
    refine Z_aload_n (pc' := 25) dX0_learn_24 rfl rfl ?_
    refine Z_iload_n (pc' := 26) dX0_learn_25 rfl rfl ?_
    refine Z_bipush (pc' := 28) dX0_learn_26 rfl rfl ?_
    refine Z_imul (pc' := 29) dX0_learn_28 rfl ?_
    refine Z_iload_n (pc' := 30) dX0_learn_29 rfl rfl ?_
    refine Z_iadd (pc' := 31) dX0_learn_30 rfl ?_
    refine Z_iconst (pc' := 32) dX0_learn_31 rfl ?_
    refine Z_isub (pc' := 33) dX0_learn_32 rfl ?_
    refine Z_aload_n (pc' := 34) dX0_learn_33 rfl rfl ?_
    refine Z_iload_n (pc' := 35) dX0_learn_34 rfl rfl ?_
    refine Z_iload_n (pc' := 36) dX0_learn_35 rfl rfl ?_
    refine Z_callV0 (M' := mX1_freeColumns) (pc' := 39) (st := [vi (((x3 * 36) + x2) - 1), .ref 12]) [vi x3, vi x2] dX0_learn_36 rfl vX1_freeColumns lX0_27 (Or.inl dd_2) rfl (Nat.le_of_ble_eq_true rfl) (Nat.le_refl 0) (Nat.le_refl 0) ?_
    refine Cl_mono P ?_
    rintro _ μ5 ⟨r6, rfl, P⟩
    show Z SS none mX0_learn (d + 1) 0 0 (qV Q) 39 [some (.ref 12), some (.ref 2), some (vi x2), some (vi x3)] [.long (r6), vi (((x3 * 36) + x2) - 1), .ref 12] μ5 0 0
    refine Z_callV0 (M' := mX0_findSpan) (pc' := 42) (st := []) [vi (((x3 * 36) + x2) - 1), .long (r6)] dX0_learn_39 rfl vX0_findSpan lX0_31 (Or.inl dd_12) rfl (Nat.le_of_ble_eq_true rfl) (Nat.le_refl 0) (Nat.le_refl 0) ?_
    refine Cl_mono P ?_
    rintro _ μ7 ⟨rfl, P⟩
    show Z SS none mX0_learn (d + 1) 0 0 (qV Q) 42 [some (.ref 12), some (.ref 2), some (vi x2), some (vi x3)] [] μ7 0 0
    refine Z_iinc (pc' := 45) (lo' := [some (.ref 12), some (.ref 2), some (vi x2), some (vi (x3 + 1))]) dX0_learn_42 rfl (by decide) rfl rfl ?_
    refine Z_goto (tgt := 16) dX0_learn_45 (by decide) ?_
    exact P
theorem bX0_lengthOf {d : Nat} {Q : Int → zMem → Prop} {μ : zMem} {x1 : Int} {x2 : Int} (P : (0 ≤ (((x1 * 36) + x2) - 1)) ∧ (((((x1 * 36) + x2) - 1) < 1296) ∧ (Q (gI μ 13 (((x1 * 36) + x2) - 1)) μ))) : kX0_lengthOf d x1 x2 μ Q := by
  refine Cl_of rfl (Nat.le_of_ble_eq_true rfl) rfl ?_
  show Z SS none mX0_lengthOf d 0 0 (qI Q) 0 [some (.ref 12), some (vi x1), some (vi x2)] [] μ 0 0
  refine Z_aload_n (pc' := 1) dX0_lengthOf_0 rfl rfl ?_
  refine Z_getR (q := 13) (pc' := 4) dX0_lengthOf_1 rfl fX0_9 rfl (Or.inl dd_12) (Or.inl rr_12_0) ?_
  refine Z_iload_n (pc' := 5) dX0_lengthOf_4 rfl rfl ?_
  refine Z_bipush (pc' := 7) dX0_lengthOf_5 rfl rfl ?_
  refine Z_imul (pc' := 8) dX0_lengthOf_7 rfl ?_
  refine Z_iload_n (pc' := 9) dX0_lengthOf_8 rfl rfl ?_
  refine Z_iadd (pc' := 10) dX0_lengthOf_9 rfl ?_
  refine Z_iconst (pc' := 11) dX0_lengthOf_10 rfl ?_
  refine Z_isub (pc' := 12) dX0_lengthOf_11 rfl ?_
  have h1 := P.1
  have P := P.2
  have h2 := P.1
  have P := P.2
  refine Z_iaload (pc' := 13) dX0_lengthOf_12 rfl (Or.inl dd_13) (Nat.le_of_ble_eq_true rfl) h1 h2 ?_
  exact Z_ireturn dX0_lengthOf_13 rfl (Nat.le_refl 0) (Nat.le_refl 0) P
theorem bX0_firstOf {d : Nat} {Q : Int → zMem → Prop} {μ : zMem} {x1 : Int} {x2 : Int} (P : (0 ≤ (((x1 * 36) + x2) - 1)) ∧ (((((x1 * 36) + x2) - 1) < 1296) ∧ (Q (gI μ 14 (((x1 * 36) + x2) - 1)) μ))) : kX0_firstOf d x1 x2 μ Q := by
  refine Cl_of rfl (Nat.le_of_ble_eq_true rfl) rfl ?_
  show Z SS none mX0_firstOf d 0 0 (qI Q) 0 [some (.ref 12), some (vi x1), some (vi x2)] [] μ 0 0
  refine Z_aload_n (pc' := 1) dX0_firstOf_0 rfl rfl ?_
  refine Z_getR (q := 14) (pc' := 4) dX0_firstOf_1 rfl fX0_15 rfl (Or.inl dd_12) (Or.inl rr_12_1) ?_
  refine Z_iload_n (pc' := 5) dX0_firstOf_4 rfl rfl ?_
  refine Z_bipush (pc' := 7) dX0_firstOf_5 rfl rfl ?_
  refine Z_imul (pc' := 8) dX0_firstOf_7 rfl ?_
  refine Z_iload_n (pc' := 9) dX0_firstOf_8 rfl rfl ?_
  refine Z_iadd (pc' := 10) dX0_firstOf_9 rfl ?_
  refine Z_iconst (pc' := 11) dX0_firstOf_10 rfl ?_
  refine Z_isub (pc' := 12) dX0_firstOf_11 rfl ?_
  have h1 := P.1
  have P := P.2
  have h2 := P.1
  have P := P.2
  refine Z_iaload (pc' := 13) dX0_firstOf_12 rfl (Or.inl dd_14) (Nat.le_of_ble_eq_true rfl) h1 h2 ?_
  exact Z_ireturn dX0_firstOf_13 rfl (Nat.le_refl 0) (Nat.le_refl 0) P
theorem bX1_init {S : zS} {d : Nat} {Q : zMem → Prop} {μ : zMem} {p0 : Nat} (P : ((gD μ)[p0]? = some (1, 0)) ∧ ((0 + 1 ≤ 2) ∧ ((0 + 30 ≤ 66) ∧ (∀ q2 : Nat, q2 = (gD (sI (sI μ p0 0 0) p0 1 1)).length → (((gD (aD (sI (sI μ p0 0 0) p0 1 1) 9 30))[p0]? = some (1, 0)) ∧ ((S.1 p0 2 = none ∨ S.1 p0 2 = some q2) ∧ (((0 + 1) + 1 ≤ 2) ∧ (((0 + 30) + 36 ≤ 66) ∧ (∀ q8 : Nat, q8 = (gD (sR (aD (sI (sI μ p0 0 0) p0 1 1) 9 30) p0 2 (some q2))).length → (((gD (aD (sR (aD (sI (sI μ p0 0 0) p0 1 1) 9 30) p0 2 (some q2)) 10 36))[p0]? = some (1, 0)) ∧ ((S.1 p0 3 = none ∨ S.1 p0 3 = some q8) ∧ ((((0 + 1) + 1) ≤ 2) ∧ ((((0 + 30) + 36) ≤ 66) ∧ (Q (sR (aD (sR (aD (sI (sI μ p0 0 0) p0 1 1) 9 30) p0 2 (some q2)) 10 36) p0 3 (some q8)))))))))))))))) : kX1_init S (d + 1) p0 μ Q := by
  refine Cl_of rfl (Nat.le_of_ble_eq_true rfl) rfl ?_
  show Z S none mX1_init (d + 1) 2 66 (qV Q) 0 [some (.ref p0)] [] μ 0 0
  refine Z_aload_n (pc' := 1) dX1_init_0 rfl rfl ?_
  refine Z_objInit (pc' := 4) dX1_init_1 rfl lX1_3 l_oi l_oc (Nat.le_of_ble_eq_true rfl) ?_
  refine Z_aload_n (pc' := 5) dX1_init_4 rfl rfl ?_
  refine Z_iconst (pc' := 6) dX1_init_5 rfl ?_
  have h1 := P.1
  have P := P.2
  refine Z_putI' (ji := 0) (pc' := 9) dX1_init_6 rfl rfl fX1_9 (Or.inl rfl) rfl (Or.inr h1) ?_
  refine Z_aload_n (pc' := 10) dX1_init_9 rfl rfl ?_
  refine Z_iconst (pc' := 11) dX1_init_10 rfl ?_
  refine Z_putI' (ji := 1) (pc' := 14) dX1_init_11 rfl rfl fX1_15 (Or.inl rfl) rfl (Or.inr h1) ?_
  refine Z_aload_n (pc' := 15) dX1_init_14 rfl rfl ?_
  refine Z_bipush (pc' := 17) dX1_init_15 rfl rfl ?_
  obtain ⟨q2, h3⟩ : ∃ q : Nat, q = (gD (sI (sI μ p0 0 0) p0 1 1)).length := ⟨_, rfl⟩
  have h4 := P.1
  have P := P.2
  have h5 := P.1
  have P := P.2
  refine Z_newI (pc' := 19) dX1_init_17 rfl (by decide) (by decide) h4 h5 l_ai ?_
  show Z S none mX1_init (d + 1) 2 66 (qV Q) 19 _ _ (aD (sI (sI μ p0 0 0) p0 1 1) 9 30) (0 + 1) (0 + 30)
  rw [← h3]
  have P := P q2 h3
  have h6 := P.1
  have P := P.2
  have h7 := P.1
  have P := P.2
  refine Z_putR' (ji := 2) (pc' := 22) dX1_init_19 rfl rfl fX1_18 (Or.inr ⟨rfl, rfl⟩) rfl (Or.inr h6) h7 ?_
  refine Z_aload_n (pc' := 23) dX1_init_22 rfl rfl ?_
  refine Z_bipush (pc' := 25) dX1_init_23 rfl rfl ?_
  obtain ⟨q8, h9⟩ : ∃ q : Nat, q = (gD (sR (aD (sI (sI μ p0 0 0) p0 1 1) 9 30) p0 2 (some q2))).length := ⟨_, rfl⟩
  have h10 := P.1
  have P := P.2
  have h11 := P.1
  have P := P.2
  refine Z_newJ (pc' := 27) dX1_init_25 rfl (by decide) (by decide) h10 h11 l_al ?_
  show Z S none mX1_init (d + 1) 2 66 (qV Q) 27 _ _ (aD (sR (aD (sI (sI μ p0 0 0) p0 1 1) 9 30) p0 2 (some q2)) 10 36) ((0 + 1) + 1) ((0 + 30) + 36)
  rw [← h9]
  have P := P q8 h9
  have h12 := P.1
  have P := P.2
  have h13 := P.1
  have P := P.2
  refine Z_putR' (ji := 3) (pc' := 30) dX1_init_27 rfl rfl fX1_22 (Or.inr ⟨rfl, rfl⟩) rfl (Or.inr h12) h13 ?_
  have h14 := P.1
  have P := P.2
  have h15 := P.1
  have P := P.2
  exact Z_return dX1_init_30 rfl h14 h15 P
theorem bX1_copyFrom {d : Nat} {Q : zMem → Prop} {μ : zMem} {p0 : Nat} {p1 : Nat} (hs0 : isSt p0) (hs1 : isSt p1) (P : (0 ≤ ((30 : Nat) : Int)) ∧ ((0 + ((30 : Nat) : Int) ≤ 30) ∧ ((0 ≤ ((36 : Nat) : Int)) ∧ ((0 + ((36 : Nat) : Int) ≤ 36) ∧ (Q (sI (cL (cI (sI μ (p0 + 1) 0 (gI μ (p1 + 1) 0)) (p1 + 2) 0 (p0 + 2) 0 ((30 : Nat) : Int)) (p1 + 3) 0 (p0 + 3) 0 ((36 : Nat) : Int)) (p0 + 1) 1 ((gI (cL (cI (sI μ (p0 + 1) 0 (gI μ (p1 + 1) 0)) (p1 + 2) 0 (p0 + 2) 0 ((30 : Nat) : Int)) (p1 + 3) 0 (p0 + 3) 0 ((36 : Nat) : Int)) (p0 + 1) 1) + 1))))))) : kX1_copyFrom (d + 1) p0 p1 μ Q := by
  refine Cl_of rfl (Nat.le_of_ble_eq_true rfl) rfl ?_
  show Z SS none mX1_copyFrom (d + 1) 0 0 (qV Q) 0 [some (.ref (p0 + 1)), some (.ref (p1 + 1))] [] μ 0 0
  refine Z_aload_n (pc' := 1) dX1_copyFrom_0 rfl rfl ?_
  refine Z_aload_n (pc' := 2) dX1_copyFrom_1 rfl rfl ?_
  refine Z_getI' (ji := 0) (pc' := 5) dX1_copyFrom_2 rfl rfl fX1_9 rfl (Or.inl (st_d1 hs1)) ?_
  refine Z_putI' (ji := 0) (pc' := 8) dX1_copyFrom_5 rfl rfl fX1_9 (Or.inl rfl) rfl (Or.inl (st_d1 hs0)) ?_
  refine Z_aload_n (pc' := 9) dX1_copyFrom_8 rfl rfl ?_
  refine Z_getR (q := p1 + 2) (pc' := 12) dX1_copyFrom_9 rfl fX1_18 rfl (Or.inl (st_d1 hs1)) (Or.inl (st_c2 hs1)) ?_
  refine Z_iconst (pc' := 13) dX1_copyFrom_12 rfl ?_
  refine Z_aload_n (pc' := 14) dX1_copyFrom_13 rfl rfl ?_
  refine Z_getR (q := p0 + 2) (pc' := 17) dX1_copyFrom_14 rfl fX1_18 rfl (Or.inl (st_d1 hs0)) (Or.inl (st_c2 hs0)) ?_
  refine Z_iconst (pc' := 18) dX1_copyFrom_17 rfl ?_
  refine Z_aload_n (pc' := 19) dX1_copyFrom_18 rfl rfl ?_
  refine Z_getR (q := p0 + 2) (pc' := 22) dX1_copyFrom_19 rfl fX1_18 rfl (Or.inl (st_d1 hs0)) (Or.inl (st_c2 hs0)) ?_
  refine Z_alen (pc' := 23) dX1_copyFrom_22 rfl (Or.inl (st_d2 hs0)) (Or.inl rfl) ?_
  have h1 := P.1
  have P := P.2
  have h2 := P.1
  have P := P.2
  refine Z_copyI (pc' := 26) dX1_copyFrom_23 rfl lX1_26 (Or.inl (st_d2 hs1)) (Or.inl (st_d2 hs0)) (Nat.le_of_ble_eq_true rfl) (Nat.le_of_ble_eq_true rfl) (by decide) (by decide) h1 h2 h2 (Nat.le_of_ble_eq_true rfl) ?_
  refine Z_aload_n (pc' := 27) dX1_copyFrom_26 rfl rfl ?_
  refine Z_getR (q := p1 + 3) (pc' := 30) dX1_copyFrom_27 rfl fX1_22 rfl (Or.inl (st_d1 hs1)) (Or.inl (st_c3 hs1)) ?_
  refine Z_iconst (pc' := 31) dX1_copyFrom_30 rfl ?_
  refine Z_aload_n (pc' := 32) dX1_copyFrom_31 rfl rfl ?_
  refine Z_getR (q := p0 + 3) (pc' := 35) dX1_copyFrom_32 rfl fX1_22 rfl (Or.inl (st_d1 hs0)) (Or.inl (st_c3 hs0)) ?_
  refine Z_iconst (pc' := 36) dX1_copyFrom_35 rfl ?_
  refine Z_aload_n (pc' := 37) dX1_copyFrom_36 rfl rfl ?_
  refine Z_getR (q := p0 + 3) (pc' := 40) dX1_copyFrom_37 rfl fX1_22 rfl (Or.inl (st_d1 hs0)) (Or.inl (st_c3 hs0)) ?_
  refine Z_alen (pc' := 41) dX1_copyFrom_40 rfl (Or.inl (st_d3 hs0)) (Or.inr rfl) ?_
  have h3 := P.1
  have P := P.2
  have h4 := P.1
  have P := P.2
  refine Z_copyL (pc' := 44) dX1_copyFrom_41 rfl lX1_26 (Or.inl (st_d3 hs1)) (Or.inl (st_d3 hs0)) (Nat.le_of_ble_eq_true rfl) (Nat.le_of_ble_eq_true rfl) (by decide) (by decide) h3 h4 h4 (Nat.le_of_ble_eq_true rfl) ?_
  refine Z_aload_n (pc' := 45) dX1_copyFrom_44 rfl rfl ?_
  refine Z_dup (pc' := 46) dX1_copyFrom_45 rfl rfl ?_
  refine Z_getI' (ji := 1) (pc' := 49) dX1_copyFrom_46 rfl rfl fX1_15 rfl (Or.inl (st_d1 hs0)) ?_
  refine Z_iconst (pc' := 50) dX1_copyFrom_49 rfl ?_
  refine Z_iadd (pc' := 51) dX1_copyFrom_50 rfl ?_
  refine Z_putI' (ji := 1) (pc' := 54) dX1_copyFrom_51 rfl rfl fX1_15 (Or.inl rfl) rfl (Or.inl (st_d1 hs0)) ?_
  exact Z_return dX1_copyFrom_54 rfl (Nat.le_refl 0) (Nat.le_refl 0) P
theorem bX1_belongs {d : Nat} {Q : Int → zMem → Prop} {μ : zMem} {x0 : Int} {x1 : Int} {x2 : Int} {x3 : Int} {x4 : Int} {x5 : Int} (P : (zIn x0) ∧ ((x0 = 1 → (((zIn ((x1 * x4) + (x2 * x3))) ∧ ((zIn (x3 * x4)))) ∧ (Q (if (x3 * x4) < ((x1 * x4) + (x2 * x3)) then 0 else 1) μ))) ∧ (¬ (x0 = 1) → ((x0 = 2 → (((zIn ((((x1 * x1) * x4) * x4) + (((x2 * x2) * x3) * x3))) ∧ ((zIn (((x3 * x3) * x4) * x4)))) ∧ (Q (if (((x3 * x3) * x4) * x4) < ((((x1 * x1) * x4) * x4) + (((x2 * x2) * x3) * x3)) then 0 else 1) μ))) ∧ (¬ (x0 = 2) → ((x0 = 3 → (((zIn (x1 * x4)) ∧ ((zIn (x3 * x5)))) ∧ (Q (if (x3 * x5) < (x1 * x4) then 0 else 1) μ))) ∧ (¬ (x0 = 3) → (Q 1 μ)))))))) : kX1_belongs d x0 x1 x2 x3 x4 x5 μ Q := by
  refine Cl_of rfl (Nat.le_of_ble_eq_true rfl) rfl ?_
  show Z SS none mX1_belongs d 0 0 (qI Q) 0 [some (vi x0), some (vi x1), some (vi x2), some (vi x3), some (vi x4), some (vi x5)] [] μ 0 0
  refine Z_iload_n (pc' := 1) dX1_belongs_0 rfl rfl ?_
  have h1 := P.1
  have P := P.2
  by_cases c2 : x0 = 1
  · have P := P.1 c2
    refine Z_tableIn (tgt := 28) dX1_belongs_1 h1 (by rw [c2]; decide) (by rw [c2]; decide) (by rw [c2] <;> rfl) (by decide) ?_
    refine Z_iload_n (pc' := 29) dX1_belongs_28 rfl rfl ?_
    refine Z_iload (pc' := 31) dX1_belongs_29 rfl rfl ?_
    refine Z_imul (pc' := 32) dX1_belongs_31 rfl ?_
    refine Z_iload_n (pc' := 33) dX1_belongs_32 rfl rfl ?_
    refine Z_iload_n (pc' := 34) dX1_belongs_33 rfl rfl ?_
    refine Z_imul (pc' := 35) dX1_belongs_34 rfl ?_
    refine Z_iadd (pc' := 36) dX1_belongs_35 rfl ?_
    refine Z_iload_n (pc' := 37) dX1_belongs_36 rfl rfl ?_
    refine Z_iload (pc' := 39) dX1_belongs_37 rfl rfl ?_
    refine Z_imul (pc' := 40) dX1_belongs_39 rfl ?_
    have K : ∀ t6 : Int, t6 = (if (x3 * x4) < ((x1 * x4) + (x2 * x3)) then 0 else 1) → Z SS none mX1_belongs d 0 0 (qI Q) 48 [some (vi x0), some (vi x1), some (vi x2), some (vi x3), some (vi x4), some (vi x5)] [vi t6] μ 0 0 := by
      rintro _ rfl
      have P := P.2
      exact Z_zreturn dX1_belongs_48 rfl (by (repeat' split) <;> simp) (Nat.le_refl 0) (Nat.le_refl 0) P
    have G := P.1
    have h3 := G.1
    have G := G.2
    have h4 := G
    refine Z_icmp_gt (tgt := 47) (pc' := 43) dX1_belongs_40 (by decide) rfl h3 h4 (fun c5 => ?_) (fun c5 => ?_)
    · refine Z_iconst (pc' := 48) dX1_belongs_47 rfl ?_
      exact K _ (by rw [if_pos c5])
    · refine Z_iconst (pc' := 44) dX1_belongs_43 rfl ?_
      refine Z_goto (tgt := 48) dX1_belongs_44 (by decide) ?_
      exact K _ (by rw [if_neg c5])
  · have P := P.2 c2
    by_cases c7 : x0 = 2
    · have P := P.1 c7
      refine Z_tableIn (tgt := 49) dX1_belongs_1 h1 (by rw [c7]; decide) (by rw [c7]; decide) (by rw [c7] <;> rfl) (by decide) ?_
      refine Z_iload_n (pc' := 50) dX1_belongs_49 rfl rfl ?_
      refine Z_iload_n (pc' := 51) dX1_belongs_50 rfl rfl ?_
      refine Z_imul (pc' := 52) dX1_belongs_51 rfl ?_
      refine Z_iload (pc' := 54) dX1_belongs_52 rfl rfl ?_
      refine Z_imul (pc' := 55) dX1_belongs_54 rfl ?_
      refine Z_iload (pc' := 57) dX1_belongs_55 rfl rfl ?_
      refine Z_imul (pc' := 58) dX1_belongs_57 rfl ?_
      refine Z_iload_n (pc' := 59) dX1_belongs_58 rfl rfl ?_
      refine Z_iload_n (pc' := 60) dX1_belongs_59 rfl rfl ?_
      refine Z_imul (pc' := 61) dX1_belongs_60 rfl ?_
      refine Z_iload_n (pc' := 62) dX1_belongs_61 rfl rfl ?_
      refine Z_imul (pc' := 63) dX1_belongs_62 rfl ?_
      refine Z_iload_n (pc' := 64) dX1_belongs_63 rfl rfl ?_
      refine Z_imul (pc' := 65) dX1_belongs_64 rfl ?_
      refine Z_iadd (pc' := 66) dX1_belongs_65 rfl ?_
      refine Z_iload_n (pc' := 67) dX1_belongs_66 rfl rfl ?_
      refine Z_iload_n (pc' := 68) dX1_belongs_67 rfl rfl ?_
      refine Z_imul (pc' := 69) dX1_belongs_68 rfl ?_
      refine Z_iload (pc' := 71) dX1_belongs_69 rfl rfl ?_
      refine Z_imul (pc' := 72) dX1_belongs_71 rfl ?_
      refine Z_iload (pc' := 74) dX1_belongs_72 rfl rfl ?_
      refine Z_imul (pc' := 75) dX1_belongs_74 rfl ?_
      have K : ∀ t11 : Int, t11 = (if (((x3 * x3) * x4) * x4) < ((((x1 * x1) * x4) * x4) + (((x2 * x2) * x3) * x3)) then 0 else 1) → Z SS none mX1_belongs d 0 0 (qI Q) 83 [some (vi x0), some (vi x1), some (vi x2), some (vi x3), some (vi x4), some (vi x5)] [vi t11] μ 0 0 := by
        rintro _ rfl
        have P := P.2
        exact Z_zreturn dX1_belongs_83 rfl (by (repeat' split) <;> simp) (Nat.le_refl 0) (Nat.le_refl 0) P
      have G := P.1
      have h8 := G.1
      have G := G.2
      have h9 := G
      refine Z_icmp_gt (tgt := 82) (pc' := 78) dX1_belongs_75 (by decide) rfl h8 h9 (fun c10 => ?_) (fun c10 => ?_)
      · refine Z_iconst (pc' := 83) dX1_belongs_82 rfl ?_
        exact K _ (by rw [if_pos c10])
      · refine Z_iconst (pc' := 79) dX1_belongs_78 rfl ?_
        refine Z_goto (tgt := 83) dX1_belongs_79 (by decide) ?_
        exact K _ (by rw [if_neg c10])
    · have P := P.2 c7
      by_cases c12 : x0 = 3
      · have P := P.1 c12
        refine Z_tableIn (tgt := 84) dX1_belongs_1 h1 (by rw [c12]; decide) (by rw [c12]; decide) (by rw [c12] <;> rfl) (by decide) ?_
        refine Z_iload_n (pc' := 85) dX1_belongs_84 rfl rfl ?_
        refine Z_iload (pc' := 87) dX1_belongs_85 rfl rfl ?_
        refine Z_imul (pc' := 88) dX1_belongs_87 rfl ?_
        refine Z_iload_n (pc' := 89) dX1_belongs_88 rfl rfl ?_
        refine Z_iload (pc' := 91) dX1_belongs_89 rfl rfl ?_
        refine Z_imul (pc' := 92) dX1_belongs_91 rfl ?_
        have K : ∀ t16 : Int, t16 = (if (x3 * x5) < (x1 * x4) then 0 else 1) → Z SS none mX1_belongs d 0 0 (qI Q) 100 [some (vi x0), some (vi x1), some (vi x2), some (vi x3), some (vi x4), some (vi x5)] [vi t16] μ 0 0 := by
          rintro _ rfl
          have P := P.2
          exact Z_zreturn dX1_belongs_100 rfl (by (repeat' split) <;> simp) (Nat.le_refl 0) (Nat.le_refl 0) P
        have G := P.1
        have h13 := G.1
        have G := G.2
        have h14 := G
        refine Z_icmp_gt (tgt := 99) (pc' := 95) dX1_belongs_92 (by decide) rfl h13 h14 (fun c15 => ?_) (fun c15 => ?_)
        · refine Z_iconst (pc' := 100) dX1_belongs_99 rfl ?_
          exact K _ (by rw [if_pos c15])
        · refine Z_iconst (pc' := 96) dX1_belongs_95 rfl ?_
          refine Z_goto (tgt := 100) dX1_belongs_96 (by decide) ?_
          exact K _ (by rw [if_neg c15])
      · have P := P.2 c12
        refine Z_tableOut (tgt := 101) dX1_belongs_1 h1 (by omega) (by decide) ?_
        refine Z_iconst (pc' := 102) dX1_belongs_101 rfl ?_
        exact Z_zreturn dX1_belongs_102 rfl (Or.inr rfl) (Nat.le_refl 0) (Nat.le_refl 0) P
abbrev zX1_columnsOf_45 (d : Nat) (Q : Int64 → zMem → Prop) (x1 : Int) (x2 : Int) (x3 : Int) (x4 : Int) (x5 : Int) (x6 : Int) (y7 : Int64) (x9 : Int) (μ : zMem) : Prop := Z SS none mX1_columnsOf (d + 1) 0 0 (qL Q) 45 [some (.ref 2), some (vi x1), some (vi x2), some (vi x3), some (vi x4), some (vi x5), some (vi x6), some (.long (y7)), none, some (vi x9), none, none] [] μ 0 0
theorem bX1_columnsOf {d : Nat} {Q : Int64 → zMem → Prop} {μ : zMem} {x1 : Int} {x2 : Int} (P : (0 ≤ (x1 + 1)) ∧ (((x1 + 1) < 30) ∧ ((0 ≤ (x1 + 3)) ∧ (((x1 + 3) < 30) ∧ ((0 ≤ (x1 + 2)) ∧ (((x1 + 2) < 30) ∧ ((0 ≤ (x1 + 4)) ∧ (((x1 + 4) < 30) ∧ (zX1_columnsOf_45 d Q x1 x2 (gI μ 3 (x1 + 1)) (gI μ 3 (x1 + 3)) (gI μ 3 (x1 + 2)) (gI μ 3 (x1 + 4)) (0 : Int64) (gI μ 3 (x1 + 1)) μ))))))))) : kX1_columnsOf (d + 1) x1 x2 μ Q := by
  refine Cl_of rfl (Nat.le_of_ble_eq_true rfl) rfl ?_
  show Z SS none mX1_columnsOf (d + 1) 0 0 (qL Q) 0 [some (.ref 2), some (vi x1), some (vi x2), none, none, none, none, none, none, none, none, none] [] μ 0 0
  refine Z_aload_n (pc' := 1) dX1_columnsOf_0 rfl rfl ?_
  refine Z_getR (q := 3) (pc' := 4) dX1_columnsOf_1 rfl fX1_18 rfl (Or.inl dd_2) (Or.inl rr_2_2) ?_
  refine Z_iload_n (pc' := 5) dX1_columnsOf_4 rfl rfl ?_
  refine Z_iconst (pc' := 6) dX1_columnsOf_5 rfl ?_
  refine Z_iadd (pc' := 7) dX1_columnsOf_6 rfl ?_
  have h1 := P.1
  have P := P.2
  have h2 := P.1
  have P := P.2
  refine Z_iaload (pc' := 8) dX1_columnsOf_7 rfl (Or.inl dd_3) (Nat.le_of_ble_eq_true rfl) h1 h2 ?_
  refine Z_istore_n (pc' := 9) (lo' := [some (.ref 2), some (vi x1), some (vi x2), some (vi (gI μ 3 (x1 + 1))), none, none, none, none, none, none, none, none]) dX1_columnsOf_8 rfl (by decide) rfl ?_
  refine Z_aload_n (pc' := 10) dX1_columnsOf_9 rfl rfl ?_
  refine Z_getR (q := 3) (pc' := 13) dX1_columnsOf_10 rfl fX1_18 rfl (Or.inl dd_2) (Or.inl rr_2_2) ?_
  refine Z_iload_n (pc' := 14) dX1_columnsOf_13 rfl rfl ?_
  refine Z_iconst (pc' := 15) dX1_columnsOf_14 rfl ?_
  refine Z_iadd (pc' := 16) dX1_columnsOf_15 rfl ?_
  have h3 := P.1
  have P := P.2
  have h4 := P.1
  have P := P.2
  refine Z_iaload (pc' := 17) dX1_columnsOf_16 rfl (Or.inl dd_3) (Nat.le_of_ble_eq_true rfl) h3 h4 ?_
  refine Z_istore (pc' := 19) (lo' := [some (.ref 2), some (vi x1), some (vi x2), some (vi (gI μ 3 (x1 + 1))), some (vi (gI μ 3 (x1 + 3))), none, none, none, none, none, none, none]) dX1_columnsOf_17 rfl (by decide) rfl ?_
  refine Z_aload_n (pc' := 20) dX1_columnsOf_19 rfl rfl ?_
  refine Z_getR (q := 3) (pc' := 23) dX1_columnsOf_20 rfl fX1_18 rfl (Or.inl dd_2) (Or.inl rr_2_2) ?_
  refine Z_iload_n (pc' := 24) dX1_columnsOf_23 rfl rfl ?_
  refine Z_iconst (pc' := 25) dX1_columnsOf_24 rfl ?_
  refine Z_iadd (pc' := 26) dX1_columnsOf_25 rfl ?_
  have h5 := P.1
  have P := P.2
  have h6 := P.1
  have P := P.2
  refine Z_iaload (pc' := 27) dX1_columnsOf_26 rfl (Or.inl dd_3) (Nat.le_of_ble_eq_true rfl) h5 h6 ?_
  refine Z_istore (pc' := 29) (lo' := [some (.ref 2), some (vi x1), some (vi x2), some (vi (gI μ 3 (x1 + 1))), some (vi (gI μ 3 (x1 + 3))), some (vi (gI μ 3 (x1 + 2))), none, none, none, none, none, none]) dX1_columnsOf_27 rfl (by decide) rfl ?_
  refine Z_aload_n (pc' := 30) dX1_columnsOf_29 rfl rfl ?_
  refine Z_getR (q := 3) (pc' := 33) dX1_columnsOf_30 rfl fX1_18 rfl (Or.inl dd_2) (Or.inl rr_2_2) ?_
  refine Z_iload_n (pc' := 34) dX1_columnsOf_33 rfl rfl ?_
  refine Z_iconst (pc' := 35) dX1_columnsOf_34 rfl ?_
  refine Z_iadd (pc' := 36) dX1_columnsOf_35 rfl ?_
  have h7 := P.1
  have P := P.2
  have h8 := P.1
  have P := P.2
  refine Z_iaload (pc' := 37) dX1_columnsOf_36 rfl (Or.inl dd_3) (Nat.le_of_ble_eq_true rfl) h7 h8 ?_
  refine Z_istore (pc' := 39) (lo' := [some (.ref 2), some (vi x1), some (vi x2), some (vi (gI μ 3 (x1 + 1))), some (vi (gI μ 3 (x1 + 3))), some (vi (gI μ 3 (x1 + 2))), some (vi (gI μ 3 (x1 + 4))), none, none, none, none, none]) dX1_columnsOf_37 rfl (by decide) rfl ?_
  refine Z_lconst (pc' := 40) (v := 0) dX1_columnsOf_39 rfl rfl ?_
  refine Z_lstore (pc' := 42) (lo' := [some (.ref 2), some (vi x1), some (vi x2), some (vi (gI μ 3 (x1 + 1))), some (vi (gI μ 3 (x1 + 3))), some (vi (gI μ 3 (x1 + 2))), some (vi (gI μ 3 (x1 + 4))), some (.long ((0 : Int64))), none, none, none, none]) dX1_columnsOf_40 rfl (by decide) rfl ?_
  refine Z_iload_n (pc' := 43) dX1_columnsOf_42 rfl rfl ?_
  refine Z_istore (pc' := 45) (lo' := [some (.ref 2), some (vi x1), some (vi x2), some (vi (gI μ 3 (x1 + 1))), some (vi (gI μ 3 (x1 + 3))), some (vi (gI μ 3 (x1 + 2))), some (vi (gI μ 3 (x1 + 4))), some (.long ((0 : Int64))), none, some (vi (gI μ 3 (x1 + 1))), none, none]) dX1_columnsOf_43 rfl (by decide) rfl ?_
  exact P
theorem bX1_columnsOf_45 {d : Nat} {Q : Int64 → zMem → Prop} {μ : zMem} {x1 : Int} {x2 : Int} {x3 : Int} {x4 : Int} {x5 : Int} {x6 : Int} {y7 : Int64} {x9 : Int} (P : (zIn x9) ∧ ((zIn x4) ∧ ((x4 < x9 → (Q y7 μ)) ∧ (¬ (x4 < x9) → ((zIn (((2 * x9) - x3) - x4)) ∧ ((zIn (((2 * x2) - x5) - x6)) ∧ ((0 ≤ (x1 + 0)) ∧ (((x1 + 0) < 30) ∧ (kX1_belongs d (gI μ 3 (x1 + 0)) (if 0 ≤ (((2 * x9) - x3) - x4) then (((2 * x9) - x3) - x4) else -(((2 * x9) - x3) - x4)) (if 0 ≤ (((2 * x2) - x5) - x6) then (((2 * x2) - x5) - x6) else -(((2 * x2) - x5) - x6)) ((x4 - x3) + 1) ((x6 - x5) + 1) ((x2 - x5) + 1) μ (fun (r9 : Int) (μ8 : zMem) => ((zIn r9)) ∧ (zX1_columnsOf_45 d Q x1 x2 x3 x4 x5 x6 (if r9 = 0 then y7 else (y7 ||| ((1 : Int64) <<< ((Int32.ofInt x9).toInt64 &&& 63)))) (x9 + 1) μ8))))))))))) : zX1_columnsOf_45 d Q x1 x2 x3 x4 x5 x6 y7 x9 μ := by
  refine Z_iload (pc' := 47) dX1_columnsOf_45 rfl rfl ?_
  refine Z_iload (pc' := 49) dX1_columnsOf_47 rfl rfl ?_
  have h1 := P.1
  have P := P.2
  have h2 := P.1
  have P := P.2
  refine Z_icmp_gt (tgt := 132) (pc' := 52) dX1_columnsOf_49 (by decide) rfl h1 h2 (fun c3 => ?_) (fun c3 => ?_)
  · have P := P.1 c3
    refine Z_lload (pc' := 134) dX1_columnsOf_132 rfl rfl ?_
    exact Z_lreturn dX1_columnsOf_134 rfl (Nat.le_refl 0) (Nat.le_refl 0) P
  · have P := P.2 c3
    refine Z_iconst (pc' := 53) dX1_columnsOf_52 rfl ?_
    refine Z_iload (pc' := 55) dX1_columnsOf_53 rfl rfl ?_
    refine Z_imul (pc' := 56) dX1_columnsOf_55 rfl ?_
    refine Z_iload_n (pc' := 57) dX1_columnsOf_56 rfl rfl ?_
    refine Z_isub (pc' := 58) dX1_columnsOf_57 rfl ?_
    refine Z_iload (pc' := 60) dX1_columnsOf_58 rfl rfl ?_
    refine Z_isub (pc' := 61) dX1_columnsOf_60 rfl ?_
    have h4 := P.1
    have P := P.2
    refine Z_abs (pc' := 64) dX1_columnsOf_61 rfl lX1_50 h4 (Nat.le_refl 0) (Nat.le_refl 0) (Nat.le_of_ble_eq_true rfl) ?_
    refine Z_istore (pc' := 66) (lo' := [some (.ref 2), some (vi x1), some (vi x2), some (vi x3), some (vi x4), some (vi x5), some (vi x6), some (.long (y7)), none, some (vi x9), some (vi (if 0 ≤ (((2 * x9) - x3) - x4) then (((2 * x9) - x3) - x4) else -(((2 * x9) - x3) - x4))), none]) dX1_columnsOf_64 rfl (by decide) rfl ?_
    refine Z_iconst (pc' := 67) dX1_columnsOf_66 rfl ?_
    refine Z_iload_n (pc' := 68) dX1_columnsOf_67 rfl rfl ?_
    refine Z_imul (pc' := 69) dX1_columnsOf_68 rfl ?_
    refine Z_iload (pc' := 71) dX1_columnsOf_69 rfl rfl ?_
    refine Z_isub (pc' := 72) dX1_columnsOf_71 rfl ?_
    refine Z_iload (pc' := 74) dX1_columnsOf_72 rfl rfl ?_
    refine Z_isub (pc' := 75) dX1_columnsOf_74 rfl ?_
    have h5 := P.1
    have P := P.2
    refine Z_abs (pc' := 78) dX1_columnsOf_75 rfl lX1_50 h5 (Nat.le_refl 0) (Nat.le_refl 0) (Nat.le_of_ble_eq_true rfl) ?_
    refine Z_istore (pc' := 80) (lo' := [some (.ref 2), some (vi x1), some (vi x2), some (vi x3), some (vi x4), some (vi x5), some (vi x6), some (.long (y7)), none, some (vi x9), some (vi (if 0 ≤ (((2 * x9) - x3) - x4) then (((2 * x9) - x3) - x4) else -(((2 * x9) - x3) - x4))), some (vi (if 0 ≤ (((2 * x2) - x5) - x6) then (((2 * x2) - x5) - x6) else -(((2 * x2) - x5) - x6)))]) dX1_columnsOf_78 rfl (by decide) rfl ?_
    refine Z_aload_n (pc' := 81) dX1_columnsOf_80 rfl rfl ?_
    refine Z_getR (q := 3) (pc' := 84) dX1_columnsOf_81 rfl fX1_18 rfl (Or.inl dd_2) (Or.inl rr_2_2) ?_
    refine Z_iload_n (pc' := 85) dX1_columnsOf_84 rfl rfl ?_
    refine Z_iconst (pc' := 86) dX1_columnsOf_85 rfl ?_
    refine Z_iadd (pc' := 87) dX1_columnsOf_86 rfl ?_
    have h6 := P.1
    have P := P.2
    have h7 := P.1
    have P := P.2
    refine Z_iaload (pc' := 88) dX1_columnsOf_87 rfl (Or.inl dd_3) (Nat.le_of_ble_eq_true rfl) h6 h7 ?_
    refine Z_iload (pc' := 90) dX1_columnsOf_88 rfl rfl ?_
    refine Z_iload (pc' := 92) dX1_columnsOf_90 rfl rfl ?_
    refine Z_iload (pc' := 94) dX1_columnsOf_92 rfl rfl ?_
    refine Z_iload_n (pc' := 95) dX1_columnsOf_94 rfl rfl ?_
    refine Z_isub (pc' := 96) dX1_columnsOf_95 rfl ?_
    refine Z_iconst (pc' := 97) dX1_columnsOf_96 rfl ?_
    refine Z_iadd (pc' := 98) dX1_columnsOf_97 rfl ?_
    refine Z_iload (pc' := 100) dX1_columnsOf_98 rfl rfl ?_
    refine Z_iload (pc' := 102) dX1_columnsOf_100 rfl rfl ?_
    refine Z_isub (pc' := 103) dX1_columnsOf_102 rfl ?_
    refine Z_iconst (pc' := 104) dX1_columnsOf_103 rfl ?_
    refine Z_iadd (pc' := 105) dX1_columnsOf_104 rfl ?_
    refine Z_iload_n (pc' := 106) dX1_columnsOf_105 rfl rfl ?_
    refine Z_iload (pc' := 108) dX1_columnsOf_106 rfl rfl ?_
    refine Z_isub (pc' := 109) dX1_columnsOf_108 rfl ?_
    refine Z_iconst (pc' := 110) dX1_columnsOf_109 rfl ?_
    refine Z_iadd (pc' := 111) dX1_columnsOf_110 rfl ?_
    refine Z_callS0 (M' := mX1_belongs) (pc' := 114) (st := []) [vi (gI μ 3 (x1 + 0)), vi (if 0 ≤ (((2 * x9) - x3) - x4) then (((2 * x9) - x3) - x4) else -(((2 * x9) - x3) - x4)), vi (if 0 ≤ (((2 * x2) - x5) - x6) then (((2 * x2) - x5) - x6) else -(((2 * x2) - x5) - x6)), vi ((x4 - x3) + 1), vi ((x6 - x5) + 1), vi ((x2 - x5) + 1)] dX1_columnsOf_111 rfl sX1_belongs lX1_56 rfl (Nat.le_of_ble_eq_true rfl) (Nat.le_refl 0) (Nat.le_refl 0) ?_
    refine Cl_mono P ?_
    rintro _ μ8 ⟨r9, rfl, P⟩
    show Z SS none mX1_columnsOf (d + 1) 0 0 (qL Q) 114 [some (.ref 2), some (vi x1), some (vi x2), some (vi x3), some (vi x4), some (vi x5), some (vi x6), some (.long (y7)), none, some (vi x9), some (vi (if 0 ≤ (((2 * x9) - x3) - x4) then (((2 * x9) - x3) - x4) else -(((2 * x9) - x3) - x4))), some (vi (if 0 ≤ (((2 * x2) - x5) - x6) then (((2 * x2) - x5) - x6) else -(((2 * x2) - x5) - x6)))] [vi r9] μ8 0 0
    have K : ∀ t12 : Int64, t12 = (if r9 = 0 then y7 else (y7 ||| ((1 : Int64) <<< ((Int32.ofInt x9).toInt64 &&& 63)))) → Z SS none mX1_columnsOf (d + 1) 0 0 (qL Q) 126 [some (.ref 2), some (vi x1), some (vi x2), some (vi x3), some (vi x4), some (vi x5), some (vi x6), some (.long (t12)), none, some (vi x9), some (vi (if 0 ≤ (((2 * x9) - x3) - x4) then (((2 * x9) - x3) - x4) else -(((2 * x9) - x3) - x4))), some (vi (if 0 ≤ (((2 * x2) - x5) - x6) then (((2 * x2) - x5) - x6) else -(((2 * x2) - x5) - x6)))] [] μ8 0 0 := by
      rintro _ rfl
      have P := P.2
      refine Z_iinc (pc' := 129) (lo' := [some (.ref 2), some (vi x1), some (vi x2), some (vi x3), some (vi x4), some (vi x5), some (vi x6), some (.long ((if r9 = 0 then y7 else (y7 ||| ((1 : Int64) <<< ((Int32.ofInt x9).toInt64 &&& 63)))))), none, some (vi (x9 + 1)), some (vi (if 0 ≤ (((2 * x9) - x3) - x4) then (((2 * x9) - x3) - x4) else -(((2 * x9) - x3) - x4))), some (vi (if 0 ≤ (((2 * x2) - x5) - x6) then (((2 * x2) - x5) - x6) else -(((2 * x2) - x5) - x6)))]) dX1_columnsOf_126 rfl (by decide) rfl rfl ?_
      refine Z_goto (tgt := 45) dX1_columnsOf_129 (by decide) ?_
      refine Z_wk [true, true, true, true, true, true, true, true, true, true, false, false] rfl ?_
      exact P
    have G := P.1
    have h10 := G
    refine Z_if_eq (tgt := 126) (pc' := 117) dX1_columnsOf_114 (by decide) rfl h10 (fun c11 => ?_) (fun c11 => ?_)
    · refine Z_wk [true, true, true, true, true, true, true, true, false, true, true, true] rfl ?_
      exact K _ (by rw [if_pos c11])
    · refine Z_lload (pc' := 119) dX1_columnsOf_117 rfl rfl ?_
      refine Z_lconst (pc' := 120) (v := 1) dX1_columnsOf_119 rfl rfl ?_
      refine Z_iload (pc' := 122) dX1_columnsOf_120 rfl rfl ?_
      refine Z_lshl (pc' := 123) dX1_columnsOf_122 rfl ?_
      refine Z_lor (pc' := 124) dX1_columnsOf_123 rfl ?_
      refine Z_lstore (pc' := 126) (lo' := [some (.ref 2), some (vi x1), some (vi x2), some (vi x3), some (vi x4), some (vi x5), some (vi x6), some (.long ((y7 ||| ((1 : Int64) <<< ((Int32.ofInt x9).toInt64 &&& 63))))), none, some (vi x9), some (vi (if 0 ≤ (((2 * x9) - x3) - x4) then (((2 * x9) - x3) - x4) else -(((2 * x9) - x3) - x4))), some (vi (if 0 ≤ (((2 * x2) - x5) - x6) then (((2 * x2) - x5) - x6) else -(((2 * x2) - x5) - x6)))]) dX1_columnsOf_124 rfl (by decide) rfl ?_
      refine Z_wk [true, true, true, true, true, true, true, true, false, true, true, true] rfl ?_
      exact K _ (by rw [if_neg c11])
abbrev zX1_toggle_9 (d : Nat) (Q : zMem → Prop) (x1 : Int) (x2 : Int) (μ : zMem) : Prop := Z SS none mX1_toggle (d + 1) 0 0 (qV Q) 9 [some (.ref 2), some (vi x1), some (vi x2)] [] μ 0 0
theorem bX1_toggle {d : Nat} {Q : zMem → Prop} {μ : zMem} {x1 : Int} (P : (0 ≤ (x1 + 2)) ∧ (((x1 + 2) < 30) ∧ (zX1_toggle_9 d Q x1 (gI μ 3 (x1 + 2)) μ))) : kX1_toggle (d + 1) x1 μ Q := by
  refine Cl_of rfl (Nat.le_of_ble_eq_true rfl) rfl ?_
  show Z SS none mX1_toggle (d + 1) 0 0 (qV Q) 0 [some (.ref 2), some (vi x1), none] [] μ 0 0
  refine Z_aload_n (pc' := 1) dX1_toggle_0 rfl rfl ?_
  refine Z_getR (q := 3) (pc' := 4) dX1_toggle_1 rfl fX1_18 rfl (Or.inl dd_2) (Or.inl rr_2_2) ?_
  refine Z_iload_n (pc' := 5) dX1_toggle_4 rfl rfl ?_
  refine Z_iconst (pc' := 6) dX1_toggle_5 rfl ?_
  refine Z_iadd (pc' := 7) dX1_toggle_6 rfl ?_
  have h1 := P.1
  have P := P.2
  have h2 := P.1
  have P := P.2
  refine Z_iaload (pc' := 8) dX1_toggle_7 rfl (Or.inl dd_3) (Nat.le_of_ble_eq_true rfl) h1 h2 ?_
  refine Z_istore_n (pc' := 9) (lo' := [some (.ref 2), some (vi x1), some (vi (gI μ 3 (x1 + 2)))]) dX1_toggle_8 rfl (by decide) rfl ?_
  exact P
theorem bX1_toggle_9 {d : Nat} {Q : zMem → Prop} {μ : zMem} {x1 : Int} {x2 : Int} (P : (0 ≤ (x1 + 4)) ∧ (((x1 + 4) < 30) ∧ ((zIn x2) ∧ ((zIn (gI μ 3 (x1 + 4))) ∧ (((gI μ 3 (x1 + 4)) < x2 → (Q (sI μ 2 1 ((gI μ 2 1) + 1)))) ∧ (¬ ((gI μ 3 (x1 + 4)) < x2) → ((0 ≤ x2) ∧ ((x2 < 36) ∧ (kX1_columnsOf d x1 x2 μ (fun (r9 : Int64) (μ8 : zMem) => zX1_toggle_9 d Q x1 (x2 + 1) (sL μ8 4 x2 ((gL μ 4 x2) ^^^ r9)))))))))))) : zX1_toggle_9 d Q x1 x2 μ := by
  refine Z_iload_n (pc' := 10) dX1_toggle_9 rfl rfl ?_
  refine Z_aload_n (pc' := 11) dX1_toggle_10 rfl rfl ?_
  refine Z_getR (q := 3) (pc' := 14) dX1_toggle_11 rfl fX1_18 rfl (Or.inl dd_2) (Or.inl rr_2_2) ?_
  refine Z_iload_n (pc' := 15) dX1_toggle_14 rfl rfl ?_
  refine Z_iconst (pc' := 16) dX1_toggle_15 rfl ?_
  refine Z_iadd (pc' := 17) dX1_toggle_16 rfl ?_
  have h1 := P.1
  have P := P.2
  have h2 := P.1
  have P := P.2
  refine Z_iaload (pc' := 18) dX1_toggle_17 rfl (Or.inl dd_3) (Nat.le_of_ble_eq_true rfl) h1 h2 ?_
  have h3 := P.1
  have P := P.2
  have h4 := P.1
  have P := P.2
  refine Z_icmp_gt (tgt := 42) (pc' := 21) dX1_toggle_18 (by decide) rfl h3 h4 (fun c5 => ?_) (fun c5 => ?_)
  · have P := P.1 c5
    refine Z_aload_n (pc' := 43) dX1_toggle_42 rfl rfl ?_
    refine Z_dup (pc' := 44) dX1_toggle_43 rfl rfl ?_
    refine Z_getI' (ji := 1) (pc' := 47) dX1_toggle_44 rfl rfl fX1_15 rfl (Or.inl dd_2) ?_
    refine Z_iconst (pc' := 48) dX1_toggle_47 rfl ?_
    refine Z_iadd (pc' := 49) dX1_toggle_48 rfl ?_
    refine Z_putI' (ji := 1) (pc' := 52) dX1_toggle_49 rfl rfl fX1_15 (Or.inl rfl) rfl (Or.inl dd_2) ?_
    exact Z_return dX1_toggle_52 rfl (Nat.le_refl 0) (Nat.le_refl 0) P
  · have P := P.2 c5
    refine Z_aload_n (pc' := 22) dX1_toggle_21 rfl rfl ?_
    refine Z_getR (q := 4) (pc' := 25) dX1_toggle_22 rfl fX1_22 rfl (Or.inl dd_2) (Or.inl rr_2_3) ?_
    refine Z_iload_n (pc' := 26) dX1_toggle_25 rfl rfl ?_
    refine Z_dup2 (pc' := 27) dX1_toggle_26 rfl rfl rfl ?_
    have h6 := P.1
    have P := P.2
    have h7 := P.1
    have P := P.2
    refine Z_laload (pc' := 28) dX1_toggle_27 rfl (Or.inl dd_4) (Nat.le_of_ble_eq_true rfl) h6 h7 ?_
    refine Z_aload_n (pc' := 29) dX1_toggle_28 rfl rfl ?_
    refine Z_iload_n (pc' := 30) dX1_toggle_29 rfl rfl ?_
    refine Z_iload_n (pc' := 31) dX1_toggle_30 rfl rfl ?_
    refine Z_callV0 (M' := mX1_columnsOf) (pc' := 34) (st := [.long ((gL μ 4 x2)), vi x2, .ref 4]) [vi x1, vi x2] dX1_toggle_31 rfl vX1_columnsOf lX1_46 (Or.inl dd_2) rfl (Nat.le_of_ble_eq_true rfl) (Nat.le_refl 0) (Nat.le_refl 0) ?_
    refine Cl_mono P ?_
    rintro _ μ8 ⟨r9, rfl, P⟩
    show Z SS none mX1_toggle (d + 1) 0 0 (qV Q) 34 [some (.ref 2), some (vi x1), some (vi x2)] [.long (r9), .long ((gL μ 4 x2)), vi x2, .ref 4] μ8 0 0
    refine Z_lxor (pc' := 35) dX1_toggle_34 rfl ?_
    refine Z_lastore (pc' := 36) dX1_toggle_35 rfl (Or.inl dd_4) (Nat.le_of_ble_eq_true rfl) h6 h7 ?_
    refine Z_iinc (pc' := 39) (lo' := [some (.ref 2), some (vi x1), some (vi (x2 + 1))]) dX1_toggle_36 rfl (by decide) rfl rfl ?_
    refine Z_goto (tgt := 9) dX1_toggle_39 (by decide) ?_
    exact P
theorem bX1_append {d : Nat} {Q : zMem → Prop} {μ : zMem} {x1 : Int} {x2 : Int} {x3 : Int} {x4 : Int} {x5 : Int} (P : (0 ≤ (((gI μ 2 0) * 5) + 0)) ∧ (((((gI μ 2 0) * 5) + 0) < 30) ∧ ((0 ≤ (((gI μ 2 0) * 5) + 1)) ∧ (((((gI μ 2 0) * 5) + 1) < 30) ∧ ((0 ≤ (((gI μ 2 0) * 5) + 2)) ∧ (((((gI μ 2 0) * 5) + 2) < 30) ∧ ((0 ≤ (((gI μ 2 0) * 5) + 3)) ∧ (((((gI μ 2 0) * 5) + 3) < 30) ∧ ((0 ≤ (((gI μ 2 0) * 5) + 4)) ∧ (((((gI μ 2 0) * 5) + 4) < 30) ∧ (kX1_toggle d ((gI μ 2 0) * 5) (sI (sI (sI (sI (sI (sI μ 3 (((gI μ 2 0) * 5) + 0) x1) 3 (((gI μ 2 0) * 5) + 1) x2) 3 (((gI μ 2 0) * 5) + 2) x3) 3 (((gI μ 2 0) * 5) + 3) x4) 3 (((gI μ 2 0) * 5) + 4) x5) 2 0 ((gI (sI (sI (sI (sI (sI μ 3 (((gI μ 2 0) * 5) + 0) x1) 3 (((gI μ 2 0) * 5) + 1) x2) 3 (((gI μ 2 0) * 5) + 2) x3) 3 (((gI μ 2 0) * 5) + 3) x4) 3 (((gI μ 2 0) * 5) + 4) x5) 2 0) + 1)) (fun μ11 : zMem => Q μ11)))))))))))) : kX1_append (d + 1) x1 x2 x3 x4 x5 μ Q := by
  refine Cl_of rfl (Nat.le_of_ble_eq_true rfl) rfl ?_
  show Z SS none mX1_append (d + 1) 0 0 (qV Q) 0 [some (.ref 2), some (vi x1), some (vi x2), some (vi x3), some (vi x4), some (vi x5), none] [] μ 0 0
  refine Z_aload_n (pc' := 1) dX1_append_0 rfl rfl ?_
  refine Z_getI' (ji := 0) (pc' := 4) dX1_append_1 rfl rfl fX1_9 rfl (Or.inl dd_2) ?_
  refine Z_iconst (pc' := 5) dX1_append_4 rfl ?_
  refine Z_imul (pc' := 6) dX1_append_5 rfl ?_
  refine Z_istore (pc' := 8) (lo' := [some (.ref 2), some (vi x1), some (vi x2), some (vi x3), some (vi x4), some (vi x5), some (vi ((gI μ 2 0) * 5))]) dX1_append_6 rfl (by decide) rfl ?_
  refine Z_aload_n (pc' := 9) dX1_append_8 rfl rfl ?_
  refine Z_getR (q := 3) (pc' := 12) dX1_append_9 rfl fX1_18 rfl (Or.inl dd_2) (Or.inl rr_2_2) ?_
  refine Z_iload (pc' := 14) dX1_append_12 rfl rfl ?_
  refine Z_iconst (pc' := 15) dX1_append_14 rfl ?_
  refine Z_iadd (pc' := 16) dX1_append_15 rfl ?_
  refine Z_iload_n (pc' := 17) dX1_append_16 rfl rfl ?_
  have h1 := P.1
  have P := P.2
  have h2 := P.1
  have P := P.2
  refine Z_iastore (pc' := 18) dX1_append_17 rfl (Or.inl dd_3) (Nat.le_of_ble_eq_true rfl) h1 h2 ?_
  refine Z_aload_n (pc' := 19) dX1_append_18 rfl rfl ?_
  refine Z_getR (q := 3) (pc' := 22) dX1_append_19 rfl fX1_18 rfl (Or.inl dd_2) (Or.inl rr_2_2) ?_
  refine Z_iload (pc' := 24) dX1_append_22 rfl rfl ?_
  refine Z_iconst (pc' := 25) dX1_append_24 rfl ?_
  refine Z_iadd (pc' := 26) dX1_append_25 rfl ?_
  refine Z_iload_n (pc' := 27) dX1_append_26 rfl rfl ?_
  have h3 := P.1
  have P := P.2
  have h4 := P.1
  have P := P.2
  refine Z_iastore (pc' := 28) dX1_append_27 rfl (Or.inl dd_3) (Nat.le_of_ble_eq_true rfl) h3 h4 ?_
  refine Z_aload_n (pc' := 29) dX1_append_28 rfl rfl ?_
  refine Z_getR (q := 3) (pc' := 32) dX1_append_29 rfl fX1_18 rfl (Or.inl dd_2) (Or.inl rr_2_2) ?_
  refine Z_iload (pc' := 34) dX1_append_32 rfl rfl ?_
  refine Z_iconst (pc' := 35) dX1_append_34 rfl ?_
  refine Z_iadd (pc' := 36) dX1_append_35 rfl ?_
  refine Z_iload_n (pc' := 37) dX1_append_36 rfl rfl ?_
  have h5 := P.1
  have P := P.2
  have h6 := P.1
  have P := P.2
  refine Z_iastore (pc' := 38) dX1_append_37 rfl (Or.inl dd_3) (Nat.le_of_ble_eq_true rfl) h5 h6 ?_
  refine Z_aload_n (pc' := 39) dX1_append_38 rfl rfl ?_
  refine Z_getR (q := 3) (pc' := 42) dX1_append_39 rfl fX1_18 rfl (Or.inl dd_2) (Or.inl rr_2_2) ?_
  refine Z_iload (pc' := 44) dX1_append_42 rfl rfl ?_
  refine Z_iconst (pc' := 45) dX1_append_44 rfl ?_
  refine Z_iadd (pc' := 46) dX1_append_45 rfl ?_
  refine Z_iload (pc' := 48) dX1_append_46 rfl rfl ?_
  have h7 := P.1
  have P := P.2
  have h8 := P.1
  have P := P.2
  refine Z_iastore (pc' := 49) dX1_append_48 rfl (Or.inl dd_3) (Nat.le_of_ble_eq_true rfl) h7 h8 ?_
  refine Z_aload_n (pc' := 50) dX1_append_49 rfl rfl ?_
  refine Z_getR (q := 3) (pc' := 53) dX1_append_50 rfl fX1_18 rfl (Or.inl dd_2) (Or.inl rr_2_2) ?_
  refine Z_iload (pc' := 55) dX1_append_53 rfl rfl ?_
  refine Z_iconst (pc' := 56) dX1_append_55 rfl ?_
  refine Z_iadd (pc' := 57) dX1_append_56 rfl ?_
  refine Z_iload (pc' := 59) dX1_append_57 rfl rfl ?_
  have h9 := P.1
  have P := P.2
  have h10 := P.1
  have P := P.2
  refine Z_iastore (pc' := 60) dX1_append_59 rfl (Or.inl dd_3) (Nat.le_of_ble_eq_true rfl) h9 h10 ?_
  refine Z_aload_n (pc' := 61) dX1_append_60 rfl rfl ?_
  refine Z_dup (pc' := 62) dX1_append_61 rfl rfl ?_
  refine Z_getI' (ji := 0) (pc' := 65) dX1_append_62 rfl rfl fX1_9 rfl (Or.inl dd_2) ?_
  refine Z_iconst (pc' := 66) dX1_append_65 rfl ?_
  refine Z_iadd (pc' := 67) dX1_append_66 rfl ?_
  refine Z_putI' (ji := 0) (pc' := 70) dX1_append_67 rfl rfl fX1_9 (Or.inl rfl) rfl (Or.inl dd_2) ?_
  refine Z_aload_n (pc' := 71) dX1_append_70 rfl rfl ?_
  refine Z_iload (pc' := 73) dX1_append_71 rfl rfl ?_
  refine Z_callV0 (M' := mX1_toggle) (pc' := 76) (st := []) [vi ((gI μ 2 0) * 5)] dX1_append_73 rfl vX1_toggle lX1_32 (Or.inl dd_2) rfl (Nat.le_of_ble_eq_true rfl) (Nat.le_refl 0) (Nat.le_refl 0) ?_
  refine Cl_mono P ?_
  rintro _ μ11 ⟨rfl, P⟩
  show Z SS none mX1_append (d + 1) 0 0 (qV Q) 76 [some (.ref 2), some (vi x1), some (vi x2), some (vi x3), some (vi x4), some (vi x5), some (vi ((gI μ 2 0) * 5))] [] μ11 0 0
  exact Z_return dX1_append_76 rfl (Nat.le_refl 0) (Nat.le_refl 0) P
theorem bX7_isIn {d : Nat} {Q : Int → zMem → Prop} {μ : zMem} {x0 : Int} {x1 : Int} {x2 : Int} (P : ((zIn x0) ∧ ((zIn x1) ∧ ((x0 < x1 → True) ∧ (¬ (x0 < x1) → (zIn x2))))) ∧ (Q (if x0 < x1 then 0 else (if x2 < x0 then 0 else 1)) μ)) : kX7_isIn d x0 x1 x2 μ Q := by
  refine Cl_of rfl (Nat.le_of_ble_eq_true rfl) rfl ?_
  show Z SS none mX7_isIn d 0 0 (qI Q) 0 [some (vi x0), some (vi x1), some (vi x2)] [] μ 0 0
  refine Z_iload_n (pc' := 1) dX7_isIn_0 rfl rfl ?_
  refine Z_iload_n (pc' := 2) dX7_isIn_1 rfl rfl ?_
  have K : ∀ t6 : Int, t6 = (if x0 < x1 then 0 else (if x2 < x0 then 0 else 1)) → Z SS none mX7_isIn d 0 0 (qI Q) 15 [some (vi x0), some (vi x1), some (vi x2)] [vi t6] μ 0 0 := by
    rintro _ rfl
    have P := P.2
    exact Z_zreturn dX7_isIn_15 rfl (by (repeat' split) <;> simp) (Nat.le_refl 0) (Nat.le_refl 0) P
  have G := P.1
  have h1 := G.1
  have G := G.2
  have h2 := G.1
  have G := G.2
  refine Z_icmp_lt (tgt := 14) (pc' := 5) dX7_isIn_2 (by decide) rfl h1 h2 (fun c3 => ?_) (fun c3 => ?_)
  · refine Z_iconst (pc' := 15) dX7_isIn_14 rfl ?_
    exact K _ (by rw [if_pos c3])
  · have G := G.2 c3
    refine Z_iload_n (pc' := 6) dX7_isIn_5 rfl rfl ?_
    refine Z_iload_n (pc' := 7) dX7_isIn_6 rfl rfl ?_
    have h4 := G
    refine Z_icmp_gt (tgt := 14) (pc' := 10) dX7_isIn_7 (by decide) rfl h1 h4 (fun c5 => ?_) (fun c5 => ?_)
    · refine Z_iconst (pc' := 15) dX7_isIn_14 rfl ?_
      exact K _ (by rw [if_neg c3, if_pos c5])
    · refine Z_iconst (pc' := 11) dX7_isIn_10 rfl ?_
      refine Z_goto (tgt := 15) dX7_isIn_11 (by decide) ?_
      exact K _ (by rw [if_neg c3, if_neg c5])
theorem bX7_isBox {d : Nat} {Q : Int → zMem → Prop} {μ : zMem} {x0 : Int} {x1 : Int} {x2 : Int} {x3 : Int} (P : kX7_isIn d x0 0 47 μ (fun (r2 : Int) (μ1 : zMem) => (zIn r2) ∧ ((r2 = 0 → (Q 0 μ1)) ∧ (¬ (r2 = 0) → (kX7_isIn d x1 0 35 μ1 (fun (r6 : Int) (μ5 : zMem) => (zIn r6) ∧ ((r6 = 0 → (Q 0 μ5)) ∧ (¬ (r6 = 0) → (kX7_isIn d x2 x0 47 μ5 (fun (r10 : Int) (μ9 : zMem) => (zIn r10) ∧ ((r10 = 0 → (Q 0 μ9)) ∧ (¬ (r10 = 0) → (kX7_isIn d x3 x1 35 μ9 (fun (r14 : Int) (μ13 : zMem) => ((zIn r14)) ∧ (Q (if r14 = 0 then 0 else 1) μ13))))))))))))))) : kX7_isBox (d + 1) x0 x1 x2 x3 μ Q := by
  refine Cl_of rfl (Nat.le_of_ble_eq_true rfl) rfl ?_
  show Z SS none mX7_isBox (d + 1) 0 0 (qI Q) 0 [some (vi x0), some (vi x1), some (vi x2), some (vi x3)] [] μ 0 0
  refine Z_iload_n (pc' := 1) dX7_isBox_0 rfl rfl ?_
  refine Z_iconst (pc' := 2) dX7_isBox_1 rfl ?_
  refine Z_bipush (pc' := 4) dX7_isBox_2 rfl rfl ?_
  refine Z_callS0 (M' := mX7_isIn) (pc' := 7) (st := []) [vi x0, vi 0, vi 47] dX7_isBox_4 rfl sX7_isIn lX7_45 rfl (Nat.le_of_ble_eq_true rfl) (Nat.le_refl 0) (Nat.le_refl 0) ?_
  refine Cl_mono P ?_
  rintro _ μ1 ⟨r2, rfl, P⟩
  show Z SS none mX7_isBox (d + 1) 0 0 (qI Q) 7 [some (vi x0), some (vi x1), some (vi x2), some (vi x3)] [vi r2] μ1 0 0
  have h3 := P.1
  have P := P.2
  refine Z_if_eq (tgt := 44) (pc' := 10) dX7_isBox_7 (by decide) rfl h3 (fun c4 => ?_) (fun c4 => ?_)
  · have P := P.1 c4
    refine Z_iconst (pc' := 45) dX7_isBox_44 rfl ?_
    exact Z_zreturn dX7_isBox_45 rfl (Or.inl rfl) (Nat.le_refl 0) (Nat.le_refl 0) P
  · have P := P.2 c4
    refine Z_iload_n (pc' := 11) dX7_isBox_10 rfl rfl ?_
    refine Z_iconst (pc' := 12) dX7_isBox_11 rfl ?_
    refine Z_bipush (pc' := 14) dX7_isBox_12 rfl rfl ?_
    refine Z_callS0 (M' := mX7_isIn) (pc' := 17) (st := []) [vi x1, vi 0, vi 35] dX7_isBox_14 rfl sX7_isIn lX7_45 rfl (Nat.le_of_ble_eq_true rfl) (Nat.le_refl 0) (Nat.le_refl 0) ?_
    refine Cl_mono P ?_
    rintro _ μ5 ⟨r6, rfl, P⟩
    show Z SS none mX7_isBox (d + 1) 0 0 (qI Q) 17 [some (vi x0), some (vi x1), some (vi x2), some (vi x3)] [vi r6] μ5 0 0
    have h7 := P.1
    have P := P.2
    refine Z_if_eq (tgt := 44) (pc' := 20) dX7_isBox_17 (by decide) rfl h7 (fun c8 => ?_) (fun c8 => ?_)
    · have P := P.1 c8
      refine Z_iconst (pc' := 45) dX7_isBox_44 rfl ?_
      exact Z_zreturn dX7_isBox_45 rfl (Or.inl rfl) (Nat.le_refl 0) (Nat.le_refl 0) P
    · have P := P.2 c8
      refine Z_iload_n (pc' := 21) dX7_isBox_20 rfl rfl ?_
      refine Z_iload_n (pc' := 22) dX7_isBox_21 rfl rfl ?_
      refine Z_bipush (pc' := 24) dX7_isBox_22 rfl rfl ?_
      refine Z_callS0 (M' := mX7_isIn) (pc' := 27) (st := []) [vi x2, vi x0, vi 47] dX7_isBox_24 rfl sX7_isIn lX7_45 rfl (Nat.le_of_ble_eq_true rfl) (Nat.le_refl 0) (Nat.le_refl 0) ?_
      refine Cl_mono P ?_
      rintro _ μ9 ⟨r10, rfl, P⟩
      show Z SS none mX7_isBox (d + 1) 0 0 (qI Q) 27 [some (vi x0), some (vi x1), some (vi x2), some (vi x3)] [vi r10] μ9 0 0
      have h11 := P.1
      have P := P.2
      refine Z_if_eq (tgt := 44) (pc' := 30) dX7_isBox_27 (by decide) rfl h11 (fun c12 => ?_) (fun c12 => ?_)
      · have P := P.1 c12
        refine Z_iconst (pc' := 45) dX7_isBox_44 rfl ?_
        exact Z_zreturn dX7_isBox_45 rfl (Or.inl rfl) (Nat.le_refl 0) (Nat.le_refl 0) P
      · have P := P.2 c12
        refine Z_iload_n (pc' := 31) dX7_isBox_30 rfl rfl ?_
        refine Z_iload_n (pc' := 32) dX7_isBox_31 rfl rfl ?_
        refine Z_bipush (pc' := 34) dX7_isBox_32 rfl rfl ?_
        refine Z_callS0 (M' := mX7_isIn) (pc' := 37) (st := []) [vi x3, vi x1, vi 35] dX7_isBox_34 rfl sX7_isIn lX7_45 rfl (Nat.le_of_ble_eq_true rfl) (Nat.le_refl 0) (Nat.le_refl 0) ?_
        refine Cl_mono P ?_
        rintro _ μ13 ⟨r14, rfl, P⟩
        show Z SS none mX7_isBox (d + 1) 0 0 (qI Q) 37 [some (vi x0), some (vi x1), some (vi x2), some (vi x3)] [vi r14] μ13 0 0
        have K : ∀ t17 : Int, t17 = (if r14 = 0 then 0 else 1) → Z SS none mX7_isBox (d + 1) 0 0 (qI Q) 45 [some (vi x0), some (vi x1), some (vi x2), some (vi x3)] [vi t17] μ13 0 0 := by
          rintro _ rfl
          have P := P.2
          exact Z_zreturn dX7_isBox_45 rfl (by (repeat' split) <;> simp) (Nat.le_refl 0) (Nat.le_refl 0) P
        have G := P.1
        have h15 := G
        refine Z_if_eq (tgt := 44) (pc' := 40) dX7_isBox_37 (by decide) rfl h15 (fun c16 => ?_) (fun c16 => ?_)
        · refine Z_iconst (pc' := 45) dX7_isBox_44 rfl ?_
          exact K _ (by rw [if_pos c16])
        · refine Z_iconst (pc' := 41) dX7_isBox_40 rfl ?_
          refine Z_goto (tgt := 45) dX7_isBox_41 (by decide) ?_
          exact K _ (by rw [if_neg c16])
theorem bX1_canShift {d : Nat} {Q : Int → zMem → Prop} {μ : zMem} {x1 : Int} {x2 : Int} {x3 : Int} (P : (0 ≤ ((x1 * 5) + 1)) ∧ ((((x1 * 5) + 1) < 30) ∧ ((0 ≤ ((x1 * 5) + 2)) ∧ ((((x1 * 5) + 2) < 30) ∧ ((0 ≤ ((x1 * 5) + 3)) ∧ ((((x1 * 5) + 3) < 30) ∧ ((0 ≤ ((x1 * 5) + 4)) ∧ ((((x1 * 5) + 4) < 30) ∧ (kX7_isBox d ((gI μ 3 ((x1 * 5) + 1)) + x2) ((gI μ 3 ((x1 * 5) + 2)) + x3) ((gI μ 3 ((x1 * 5) + 3)) + x2) ((gI μ 3 ((x1 * 5) + 4)) + x3) μ (fun (r10 : Int) (μ9 : zMem) => (r10 = 0 ∨ r10 = 1) ∧ (Q r10 μ9))))))))))) : kX1_canShift (d + 1) x1 x2 x3 μ Q := by
  refine Cl_of rfl (Nat.le_of_ble_eq_true rfl) rfl ?_
  show Z SS none mX1_canShift (d + 1) 0 0 (qI Q) 0 [some (.ref 2), some (vi x1), some (vi x2), some (vi x3), none] [] μ 0 0
  refine Z_iload_n (pc' := 1) dX1_canShift_0 rfl rfl ?_
  refine Z_iconst (pc' := 2) dX1_canShift_1 rfl ?_
  refine Z_imul (pc' := 3) dX1_canShift_2 rfl ?_
  refine Z_istore (pc' := 5) (lo' := [some (.ref 2), some (vi x1), some (vi x2), some (vi x3), some (vi (x1 * 5))]) dX1_canShift_3 rfl (by decide) rfl ?_
  refine Z_aload_n (pc' := 6) dX1_canShift_5 rfl rfl ?_
  refine Z_getR (q := 3) (pc' := 9) dX1_canShift_6 rfl fX1_18 rfl (Or.inl dd_2) (Or.inl rr_2_2) ?_
  refine Z_iload (pc' := 11) dX1_canShift_9 rfl rfl ?_
  refine Z_iconst (pc' := 12) dX1_canShift_11 rfl ?_
  refine Z_iadd (pc' := 13) dX1_canShift_12 rfl ?_
  have h1 := P.1
  have P := P.2
  have h2 := P.1
  have P := P.2
  refine Z_iaload (pc' := 14) dX1_canShift_13 rfl (Or.inl dd_3) (Nat.le_of_ble_eq_true rfl) h1 h2 ?_
  refine Z_iload_n (pc' := 15) dX1_canShift_14 rfl rfl ?_
  refine Z_iadd (pc' := 16) dX1_canShift_15 rfl ?_
  refine Z_aload_n (pc' := 17) dX1_canShift_16 rfl rfl ?_
  refine Z_getR (q := 3) (pc' := 20) dX1_canShift_17 rfl fX1_18 rfl (Or.inl dd_2) (Or.inl rr_2_2) ?_
  refine Z_iload (pc' := 22) dX1_canShift_20 rfl rfl ?_
  refine Z_iconst (pc' := 23) dX1_canShift_22 rfl ?_
  refine Z_iadd (pc' := 24) dX1_canShift_23 rfl ?_
  have h3 := P.1
  have P := P.2
  have h4 := P.1
  have P := P.2
  refine Z_iaload (pc' := 25) dX1_canShift_24 rfl (Or.inl dd_3) (Nat.le_of_ble_eq_true rfl) h3 h4 ?_
  refine Z_iload_n (pc' := 26) dX1_canShift_25 rfl rfl ?_
  refine Z_iadd (pc' := 27) dX1_canShift_26 rfl ?_
  refine Z_aload_n (pc' := 28) dX1_canShift_27 rfl rfl ?_
  refine Z_getR (q := 3) (pc' := 31) dX1_canShift_28 rfl fX1_18 rfl (Or.inl dd_2) (Or.inl rr_2_2) ?_
  refine Z_iload (pc' := 33) dX1_canShift_31 rfl rfl ?_
  refine Z_iconst (pc' := 34) dX1_canShift_33 rfl ?_
  refine Z_iadd (pc' := 35) dX1_canShift_34 rfl ?_
  have h5 := P.1
  have P := P.2
  have h6 := P.1
  have P := P.2
  refine Z_iaload (pc' := 36) dX1_canShift_35 rfl (Or.inl dd_3) (Nat.le_of_ble_eq_true rfl) h5 h6 ?_
  refine Z_iload_n (pc' := 37) dX1_canShift_36 rfl rfl ?_
  refine Z_iadd (pc' := 38) dX1_canShift_37 rfl ?_
  refine Z_aload_n (pc' := 39) dX1_canShift_38 rfl rfl ?_
  refine Z_getR (q := 3) (pc' := 42) dX1_canShift_39 rfl fX1_18 rfl (Or.inl dd_2) (Or.inl rr_2_2) ?_
  refine Z_iload (pc' := 44) dX1_canShift_42 rfl rfl ?_
  refine Z_iconst (pc' := 45) dX1_canShift_44 rfl ?_
  refine Z_iadd (pc' := 46) dX1_canShift_45 rfl ?_
  have h7 := P.1
  have P := P.2
  have h8 := P.1
  have P := P.2
  refine Z_iaload (pc' := 47) dX1_canShift_46 rfl (Or.inl dd_3) (Nat.le_of_ble_eq_true rfl) h7 h8 ?_
  refine Z_iload_n (pc' := 48) dX1_canShift_47 rfl rfl ?_
  refine Z_iadd (pc' := 49) dX1_canShift_48 rfl ?_
  refine Z_callSN0 (M' := mX7_isBox) (pc' := 52) (st := []) [vi ((gI μ 3 ((x1 * 5) + 1)) + x2), vi ((gI μ 3 ((x1 * 5) + 2)) + x3), vi ((gI μ 3 ((x1 * 5) + 3)) + x2), vi ((gI μ 3 ((x1 * 5) + 4)) + x3)] dX1_canShift_49 rfl sX7_isBox lX1_36 rfl (Nat.le_of_ble_eq_true rfl) (Nat.le_refl 0) (Nat.le_refl 0) ?_
  refine Cl_mono P ?_
  rintro _ μ9 ⟨r10, rfl, P⟩
  show Z SS none mX1_canShift (d + 1) 0 0 (qI Q) 52 [some (.ref 2), some (vi x1), some (vi x2), some (vi x3), some (vi (x1 * 5))] [vi r10] μ9 0 0
  have h11 := P.1
  have P := P.2
  exact Z_zreturn dX1_canShift_52 rfl h11 (Nat.le_refl 0) (Nat.le_refl 0) P
theorem bX1_shift {d : Nat} {Q : zMem → Prop} {μ : zMem} {x1 : Int} {x2 : Int} {x3 : Int} (P : kX1_toggle d (x1 * 5) μ (fun μ1 : zMem => (0 ≤ ((x1 * 5) + 1)) ∧ ((((x1 * 5) + 1) < 30) ∧ ((0 ≤ ((x1 * 5) + 2)) ∧ ((((x1 * 5) + 2) < 30) ∧ ((0 ≤ ((x1 * 5) + 3)) ∧ ((((x1 * 5) + 3) < 30) ∧ ((0 ≤ ((x1 * 5) + 4)) ∧ ((((x1 * 5) + 4) < 30) ∧ (kX1_toggle d (x1 * 5) (sI (sI (sI (sI μ1 3 ((x1 * 5) + 1) ((gI μ1 3 ((x1 * 5) + 1)) + x2)) 3 ((x1 * 5) + 2) ((gI (sI μ1 3 ((x1 * 5) + 1) ((gI μ1 3 ((x1 * 5) + 1)) + x2)) 3 ((x1 * 5) + 2)) + x3)) 3 ((x1 * 5) + 3) ((gI (sI (sI μ1 3 ((x1 * 5) + 1) ((gI μ1 3 ((x1 * 5) + 1)) + x2)) 3 ((x1 * 5) + 2) ((gI (sI μ1 3 ((x1 * 5) + 1) ((gI μ1 3 ((x1 * 5) + 1)) + x2)) 3 ((x1 * 5) + 2)) + x3)) 3 ((x1 * 5) + 3)) + x2)) 3 ((x1 * 5) + 4) ((gI (sI (sI (sI μ1 3 ((x1 * 5) + 1) ((gI μ1 3 ((x1 * 5) + 1)) + x2)) 3 ((x1 * 5) + 2) ((gI (sI μ1 3 ((x1 * 5) + 1) ((gI μ1 3 ((x1 * 5) + 1)) + x2)) 3 ((x1 * 5) + 2)) + x3)) 3 ((x1 * 5) + 3) ((gI (sI (sI μ1 3 ((x1 * 5) + 1) ((gI μ1 3 ((x1 * 5) + 1)) + x2)) 3 ((x1 * 5) + 2) ((gI (sI μ1 3 ((x1 * 5) + 1) ((gI μ1 3 ((x1 * 5) + 1)) + x2)) 3 ((x1 * 5) + 2)) + x3)) 3 ((x1 * 5) + 3)) + x2)) 3 ((x1 * 5) + 4)) + x3)) (fun μ10 : zMem => Q μ10))))))))))) : kX1_shift (d + 1) x1 x2 x3 μ Q := by
  refine Cl_of rfl (Nat.le_of_ble_eq_true rfl) rfl ?_
  show Z SS none mX1_shift (d + 1) 0 0 (qV Q) 0 [some (.ref 2), some (vi x1), some (vi x2), some (vi x3), none] [] μ 0 0
  refine Z_iload_n (pc' := 1) dX1_shift_0 rfl rfl ?_
  refine Z_iconst (pc' := 2) dX1_shift_1 rfl ?_
  refine Z_imul (pc' := 3) dX1_shift_2 rfl ?_
  refine Z_istore (pc' := 5) (lo' := [some (.ref 2), some (vi x1), some (vi x2), some (vi x3), some (vi (x1 * 5))]) dX1_shift_3 rfl (by decide) rfl ?_
  refine Z_aload_n (pc' := 6) dX1_shift_5 rfl rfl ?_
  refine Z_iload (pc' := 8) dX1_shift_6 rfl rfl ?_
  refine Z_callV0 (M' := mX1_toggle) (pc' := 11) (st := []) [vi (x1 * 5)] dX1_shift_8 rfl vX1_toggle lX1_32 (Or.inl dd_2) rfl (Nat.le_of_ble_eq_true rfl) (Nat.le_refl 0) (Nat.le_refl 0) ?_
  refine Cl_mono P ?_
  rintro _ μ1 ⟨rfl, P⟩
  show Z SS none mX1_shift (d + 1) 0 0 (qV Q) 11 [some (.ref 2), some (vi x1), some (vi x2), some (vi x3), some (vi (x1 * 5))] [] μ1 0 0
  refine Z_aload_n (pc' := 12) dX1_shift_11 rfl rfl ?_
  refine Z_getR (q := 3) (pc' := 15) dX1_shift_12 rfl fX1_18 rfl (Or.inl dd_2) (Or.inl rr_2_2) ?_
  refine Z_iload (pc' := 17) dX1_shift_15 rfl rfl ?_
  refine Z_iconst (pc' := 18) dX1_shift_17 rfl ?_
  refine Z_iadd (pc' := 19) dX1_shift_18 rfl ?_
  refine Z_dup2 (pc' := 20) dX1_shift_19 rfl rfl rfl ?_
  have h2 := P.1
  have P := P.2
  have h3 := P.1
  have P := P.2
  refine Z_iaload (pc' := 21) dX1_shift_20 rfl (Or.inl dd_3) (Nat.le_of_ble_eq_true rfl) h2 h3 ?_
  refine Z_iload_n (pc' := 22) dX1_shift_21 rfl rfl ?_
  refine Z_iadd (pc' := 23) dX1_shift_22 rfl ?_
  refine Z_iastore (pc' := 24) dX1_shift_23 rfl (Or.inl dd_3) (Nat.le_of_ble_eq_true rfl) h2 h3 ?_
  refine Z_aload_n (pc' := 25) dX1_shift_24 rfl rfl ?_
  refine Z_getR (q := 3) (pc' := 28) dX1_shift_25 rfl fX1_18 rfl (Or.inl dd_2) (Or.inl rr_2_2) ?_
  refine Z_iload (pc' := 30) dX1_shift_28 rfl rfl ?_
  refine Z_iconst (pc' := 31) dX1_shift_30 rfl ?_
  refine Z_iadd (pc' := 32) dX1_shift_31 rfl ?_
  refine Z_dup2 (pc' := 33) dX1_shift_32 rfl rfl rfl ?_
  have h4 := P.1
  have P := P.2
  have h5 := P.1
  have P := P.2
  refine Z_iaload (pc' := 34) dX1_shift_33 rfl (Or.inl dd_3) (Nat.le_of_ble_eq_true rfl) h4 h5 ?_
  refine Z_iload_n (pc' := 35) dX1_shift_34 rfl rfl ?_
  refine Z_iadd (pc' := 36) dX1_shift_35 rfl ?_
  refine Z_iastore (pc' := 37) dX1_shift_36 rfl (Or.inl dd_3) (Nat.le_of_ble_eq_true rfl) h4 h5 ?_
  refine Z_aload_n (pc' := 38) dX1_shift_37 rfl rfl ?_
  refine Z_getR (q := 3) (pc' := 41) dX1_shift_38 rfl fX1_18 rfl (Or.inl dd_2) (Or.inl rr_2_2) ?_
  refine Z_iload (pc' := 43) dX1_shift_41 rfl rfl ?_
  refine Z_iconst (pc' := 44) dX1_shift_43 rfl ?_
  refine Z_iadd (pc' := 45) dX1_shift_44 rfl ?_
  refine Z_dup2 (pc' := 46) dX1_shift_45 rfl rfl rfl ?_
  have h6 := P.1
  have P := P.2
  have h7 := P.1
  have P := P.2
  refine Z_iaload (pc' := 47) dX1_shift_46 rfl (Or.inl dd_3) (Nat.le_of_ble_eq_true rfl) h6 h7 ?_
  refine Z_iload_n (pc' := 48) dX1_shift_47 rfl rfl ?_
  refine Z_iadd (pc' := 49) dX1_shift_48 rfl ?_
  refine Z_iastore (pc' := 50) dX1_shift_49 rfl (Or.inl dd_3) (Nat.le_of_ble_eq_true rfl) h6 h7 ?_
  refine Z_aload_n (pc' := 51) dX1_shift_50 rfl rfl ?_
  refine Z_getR (q := 3) (pc' := 54) dX1_shift_51 rfl fX1_18 rfl (Or.inl dd_2) (Or.inl rr_2_2) ?_
  refine Z_iload (pc' := 56) dX1_shift_54 rfl rfl ?_
  refine Z_iconst (pc' := 57) dX1_shift_56 rfl ?_
  refine Z_iadd (pc' := 58) dX1_shift_57 rfl ?_
  refine Z_dup2 (pc' := 59) dX1_shift_58 rfl rfl rfl ?_
  have h8 := P.1
  have P := P.2
  have h9 := P.1
  have P := P.2
  refine Z_iaload (pc' := 60) dX1_shift_59 rfl (Or.inl dd_3) (Nat.le_of_ble_eq_true rfl) h8 h9 ?_
  refine Z_iload_n (pc' := 61) dX1_shift_60 rfl rfl ?_
  refine Z_iadd (pc' := 62) dX1_shift_61 rfl ?_
  refine Z_iastore (pc' := 63) dX1_shift_62 rfl (Or.inl dd_3) (Nat.le_of_ble_eq_true rfl) h8 h9 ?_
  refine Z_aload_n (pc' := 64) dX1_shift_63 rfl rfl ?_
  refine Z_iload (pc' := 66) dX1_shift_64 rfl rfl ?_
  refine Z_callV0 (M' := mX1_toggle) (pc' := 69) (st := []) [vi (x1 * 5)] dX1_shift_66 rfl vX1_toggle lX1_32 (Or.inl dd_2) rfl (Nat.le_of_ble_eq_true rfl) (Nat.le_refl 0) (Nat.le_refl 0) ?_
  refine Cl_mono P ?_
  rintro _ μ10 ⟨rfl, P⟩
  show Z SS none mX1_shift (d + 1) 0 0 (qV Q) 69 [some (.ref 2), some (vi x1), some (vi x2), some (vi x3), some (vi (x1 * 5))] [] μ10 0 0
  exact Z_return dX1_shift_69 rfl (Nat.le_refl 0) (Nat.le_refl 0) P
theorem bX1_drop {d : Nat} {Q : zMem → Prop} {μ : zMem} {x1 : Int} (P : kX1_toggle d (x1 * 5) μ (fun μ1 : zMem => (0 ≤ ((x1 * 5) + 5)) ∧ ((0 ≤ (x1 * 5)) ∧ ((0 ≤ (((gI (sI μ1 2 0 ((gI μ1 2 0) - 1)) 2 0) * 5) - (x1 * 5))) ∧ ((((x1 * 5) + 5) + (((gI (sI μ1 2 0 ((gI μ1 2 0) - 1)) 2 0) * 5) - (x1 * 5)) ≤ 30) ∧ (((x1 * 5) + (((gI (sI μ1 2 0 ((gI μ1 2 0) - 1)) 2 0) * 5) - (x1 * 5)) ≤ 30) ∧ (Q (cI (sI μ1 2 0 ((gI μ1 2 0) - 1)) 3 ((x1 * 5) + 5) 3 (x1 * 5) (((gI (sI μ1 2 0 ((gI μ1 2 0) - 1)) 2 0) * 5) - (x1 * 5)))))))))) : kX1_drop (d + 1) x1 μ Q := by
  refine Cl_of rfl (Nat.le_of_ble_eq_true rfl) rfl ?_
  show Z SS none mX1_drop (d + 1) 0 0 (qV Q) 0 [some (.ref 2), some (vi x1), none] [] μ 0 0
  refine Z_iload_n (pc' := 1) dX1_drop_0 rfl rfl ?_
  refine Z_iconst (pc' := 2) dX1_drop_1 rfl ?_
  refine Z_imul (pc' := 3) dX1_drop_2 rfl ?_
  refine Z_istore_n (pc' := 4) (lo' := [some (.ref 2), some (vi x1), some (vi (x1 * 5))]) dX1_drop_3 rfl (by decide) rfl ?_
  refine Z_aload_n (pc' := 5) dX1_drop_4 rfl rfl ?_
  refine Z_iload_n (pc' := 6) dX1_drop_5 rfl rfl ?_
  refine Z_callV0 (M' := mX1_toggle) (pc' := 9) (st := []) [vi (x1 * 5)] dX1_drop_6 rfl vX1_toggle lX1_32 (Or.inl dd_2) rfl (Nat.le_of_ble_eq_true rfl) (Nat.le_refl 0) (Nat.le_refl 0) ?_
  refine Cl_mono P ?_
  rintro _ μ1 ⟨rfl, P⟩
  show Z SS none mX1_drop (d + 1) 0 0 (qV Q) 9 [some (.ref 2), some (vi x1), some (vi (x1 * 5))] [] μ1 0 0
  refine Z_aload_n (pc' := 10) dX1_drop_9 rfl rfl ?_
  refine Z_dup (pc' := 11) dX1_drop_10 rfl rfl ?_
  refine Z_getI' (ji := 0) (pc' := 14) dX1_drop_11 rfl rfl fX1_9 rfl (Or.inl dd_2) ?_
  refine Z_iconst (pc' := 15) dX1_drop_14 rfl ?_
  refine Z_isub (pc' := 16) dX1_drop_15 rfl ?_
  refine Z_putI' (ji := 0) (pc' := 19) dX1_drop_16 rfl rfl fX1_9 (Or.inl rfl) rfl (Or.inl dd_2) ?_
  refine Z_aload_n (pc' := 20) dX1_drop_19 rfl rfl ?_
  refine Z_getR (q := 3) (pc' := 23) dX1_drop_20 rfl fX1_18 rfl (Or.inl dd_2) (Or.inl rr_2_2) ?_
  refine Z_iload_n (pc' := 24) dX1_drop_23 rfl rfl ?_
  refine Z_iconst (pc' := 25) dX1_drop_24 rfl ?_
  refine Z_iadd (pc' := 26) dX1_drop_25 rfl ?_
  refine Z_aload_n (pc' := 27) dX1_drop_26 rfl rfl ?_
  refine Z_getR (q := 3) (pc' := 30) dX1_drop_27 rfl fX1_18 rfl (Or.inl dd_2) (Or.inl rr_2_2) ?_
  refine Z_iload_n (pc' := 31) dX1_drop_30 rfl rfl ?_
  refine Z_aload_n (pc' := 32) dX1_drop_31 rfl rfl ?_
  refine Z_getI' (ji := 0) (pc' := 35) dX1_drop_32 rfl rfl fX1_9 rfl (Or.inl dd_2) ?_
  refine Z_iconst (pc' := 36) dX1_drop_35 rfl ?_
  refine Z_imul (pc' := 37) dX1_drop_36 rfl ?_
  refine Z_iload_n (pc' := 38) dX1_drop_37 rfl rfl ?_
  refine Z_isub (pc' := 39) dX1_drop_38 rfl ?_
  have h2 := P.1
  have P := P.2
  have h3 := P.1
  have P := P.2
  have h4 := P.1
  have P := P.2
  have h5 := P.1
  have P := P.2
  have h6 := P.1
  have P := P.2
  refine Z_copyI (pc' := 42) dX1_drop_39 rfl lX1_26 (Or.inl dd_3) (Or.inl dd_3) (Nat.le_of_ble_eq_true rfl) (Nat.le_of_ble_eq_true rfl) h2 h3 h4 h5 h6 (Nat.le_of_ble_eq_true rfl) ?_
  exact Z_return dX1_drop_42 rfl (Nat.le_refl 0) (Nat.le_refl 0) P
theorem bX1_isFreeAt {d : Nat} {Q : Int → zMem → Prop} {μ : zMem} {x1 : Int} {x2 : Int} (P : (0 ≤ x2) ∧ ((x2 < 36) ∧ (Q (if (zcmp (((gL μ 4 x2) >>> ((Int32.ofInt x1).toInt64 &&& 63)) &&& (1 : Int64)) (0 : Int64)) = 0 then 0 else 1) μ))) : kX1_isFreeAt d x1 x2 μ Q := by
  refine Cl_of rfl (Nat.le_of_ble_eq_true rfl) rfl ?_
  show Z SS none mX1_isFreeAt d 0 0 (qI Q) 0 [some (.ref 2), some (vi x1), some (vi x2)] [] μ 0 0
  refine Z_aload_n (pc' := 1) dX1_isFreeAt_0 rfl rfl ?_
  refine Z_getR (q := 4) (pc' := 4) dX1_isFreeAt_1 rfl fX1_22 rfl (Or.inl dd_2) (Or.inl rr_2_3) ?_
  refine Z_iload_n (pc' := 5) dX1_isFreeAt_4 rfl rfl ?_
  have h1 := P.1
  have P := P.2
  have h2 := P.1
  have P := P.2
  refine Z_laload (pc' := 6) dX1_isFreeAt_5 rfl (Or.inl dd_4) (Nat.le_of_ble_eq_true rfl) h1 h2 ?_
  refine Z_iload_n (pc' := 7) dX1_isFreeAt_6 rfl rfl ?_
  refine Z_lshr (pc' := 8) dX1_isFreeAt_7 rfl ?_
  refine Z_lconst (pc' := 9) (v := 1) dX1_isFreeAt_8 rfl rfl ?_
  refine Z_land (pc' := 10) dX1_isFreeAt_9 rfl ?_
  refine Z_lconst (pc' := 11) (v := 0) dX1_isFreeAt_10 rfl rfl ?_
  refine Z_lcmp (pc' := 12) dX1_isFreeAt_11 rfl ?_
  have K : ∀ t4 : Int, t4 = (if (zcmp (((gL μ 4 x2) >>> ((Int32.ofInt x1).toInt64 &&& 63)) &&& (1 : Int64)) (0 : Int64)) = 0 then 0 else 1) → Z SS none mX1_isFreeAt d 0 0 (qI Q) 20 [some (.ref 2), some (vi x1), some (vi x2)] [vi t4] μ 0 0 := by
    rintro _ rfl
    exact Z_zreturn dX1_isFreeAt_20 rfl (by (repeat' split) <;> simp) (Nat.le_refl 0) (Nat.le_refl 0) P
  refine Z_if_eq (tgt := 19) (pc' := 15) dX1_isFreeAt_12 (by decide) rfl (zcmp_in _ _) (fun c3 => ?_) (fun c3 => ?_)
  · refine Z_iconst (pc' := 20) dX1_isFreeAt_19 rfl ?_
    exact K _ (by rw [if_pos c3])
  · refine Z_iconst (pc' := 16) dX1_isFreeAt_15 rfl ?_
    refine Z_goto (tgt := 20) dX1_isFreeAt_16 (by decide) ?_
    exact K _ (by rw [if_neg c3])
theorem bJ13_bitCount_95d88 {d : Nat} {Q : Int → zMem → Prop} {μ : zMem} {y0 : Int64} (P : ∃ z1 : Int, (Int32.ofInt (((((((((y0 - (((y0.toUInt64 >>> ((Int32.ofInt 1).toInt64.toUInt64 &&& Int64.toUInt64 63)).toInt64) &&& (6148914691236517205 : Int64))) &&& (3689348814741910323 : Int64)) + ((((y0 - (((y0.toUInt64 >>> ((Int32.ofInt 1).toInt64.toUInt64 &&& Int64.toUInt64 63)).toInt64) &&& (6148914691236517205 : Int64))).toUInt64 >>> ((Int32.ofInt 2).toInt64.toUInt64 &&& Int64.toUInt64 63)).toInt64) &&& (3689348814741910323 : Int64))) + (((((y0 - (((y0.toUInt64 >>> ((Int32.ofInt 1).toInt64.toUInt64 &&& Int64.toUInt64 63)).toInt64) &&& (6148914691236517205 : Int64))) &&& (3689348814741910323 : Int64)) + ((((y0 - (((y0.toUInt64 >>> ((Int32.ofInt 1).toInt64.toUInt64 &&& Int64.toUInt64 63)).toInt64) &&& (6148914691236517205 : Int64))).toUInt64 >>> ((Int32.ofInt 2).toInt64.toUInt64 &&& Int64.toUInt64 63)).toInt64) &&& (3689348814741910323 : Int64))).toUInt64 >>> ((Int32.ofInt 4).toInt64.toUInt64 &&& Int64.toUInt64 63)).toInt64)) &&& (1085102592571150095 : Int64)) + (((((((y0 - (((y0.toUInt64 >>> ((Int32.ofInt 1).toInt64.toUInt64 &&& Int64.toUInt64 63)).toInt64) &&& (6148914691236517205 : Int64))) &&& (3689348814741910323 : Int64)) + ((((y0 - (((y0.toUInt64 >>> ((Int32.ofInt 1).toInt64.toUInt64 &&& Int64.toUInt64 63)).toInt64) &&& (6148914691236517205 : Int64))).toUInt64 >>> ((Int32.ofInt 2).toInt64.toUInt64 &&& Int64.toUInt64 63)).toInt64) &&& (3689348814741910323 : Int64))) + (((((y0 - (((y0.toUInt64 >>> ((Int32.ofInt 1).toInt64.toUInt64 &&& Int64.toUInt64 63)).toInt64) &&& (6148914691236517205 : Int64))) &&& (3689348814741910323 : Int64)) + ((((y0 - (((y0.toUInt64 >>> ((Int32.ofInt 1).toInt64.toUInt64 &&& Int64.toUInt64 63)).toInt64) &&& (6148914691236517205 : Int64))).toUInt64 >>> ((Int32.ofInt 2).toInt64.toUInt64 &&& Int64.toUInt64 63)).toInt64) &&& (3689348814741910323 : Int64))).toUInt64 >>> ((Int32.ofInt 4).toInt64.toUInt64 &&& Int64.toUInt64 63)).toInt64)) &&& (1085102592571150095 : Int64)).toUInt64 >>> ((Int32.ofInt 8).toInt64.toUInt64 &&& Int64.toUInt64 63)).toInt64)) + ((((((((y0 - (((y0.toUInt64 >>> ((Int32.ofInt 1).toInt64.toUInt64 &&& Int64.toUInt64 63)).toInt64) &&& (6148914691236517205 : Int64))) &&& (3689348814741910323 : Int64)) + ((((y0 - (((y0.toUInt64 >>> ((Int32.ofInt 1).toInt64.toUInt64 &&& Int64.toUInt64 63)).toInt64) &&& (6148914691236517205 : Int64))).toUInt64 >>> ((Int32.ofInt 2).toInt64.toUInt64 &&& Int64.toUInt64 63)).toInt64) &&& (3689348814741910323 : Int64))) + (((((y0 - (((y0.toUInt64 >>> ((Int32.ofInt 1).toInt64.toUInt64 &&& Int64.toUInt64 63)).toInt64) &&& (6148914691236517205 : Int64))) &&& (3689348814741910323 : Int64)) + ((((y0 - (((y0.toUInt64 >>> ((Int32.ofInt 1).toInt64.toUInt64 &&& Int64.toUInt64 63)).toInt64) &&& (6148914691236517205 : Int64))).toUInt64 >>> ((Int32.ofInt 2).toInt64.toUInt64 &&& Int64.toUInt64 63)).toInt64) &&& (3689348814741910323 : Int64))).toUInt64 >>> ((Int32.ofInt 4).toInt64.toUInt64 &&& Int64.toUInt64 63)).toInt64)) &&& (1085102592571150095 : Int64)) + (((((((y0 - (((y0.toUInt64 >>> ((Int32.ofInt 1).toInt64.toUInt64 &&& Int64.toUInt64 63)).toInt64) &&& (6148914691236517205 : Int64))) &&& (3689348814741910323 : Int64)) + ((((y0 - (((y0.toUInt64 >>> ((Int32.ofInt 1).toInt64.toUInt64 &&& Int64.toUInt64 63)).toInt64) &&& (6148914691236517205 : Int64))).toUInt64 >>> ((Int32.ofInt 2).toInt64.toUInt64 &&& Int64.toUInt64 63)).toInt64) &&& (3689348814741910323 : Int64))) + (((((y0 - (((y0.toUInt64 >>> ((Int32.ofInt 1).toInt64.toUInt64 &&& Int64.toUInt64 63)).toInt64) &&& (6148914691236517205 : Int64))) &&& (3689348814741910323 : Int64)) + ((((y0 - (((y0.toUInt64 >>> ((Int32.ofInt 1).toInt64.toUInt64 &&& Int64.toUInt64 63)).toInt64) &&& (6148914691236517205 : Int64))).toUInt64 >>> ((Int32.ofInt 2).toInt64.toUInt64 &&& Int64.toUInt64 63)).toInt64) &&& (3689348814741910323 : Int64))).toUInt64 >>> ((Int32.ofInt 4).toInt64.toUInt64 &&& Int64.toUInt64 63)).toInt64)) &&& (1085102592571150095 : Int64)).toUInt64 >>> ((Int32.ofInt 8).toInt64.toUInt64 &&& Int64.toUInt64 63)).toInt64)).toUInt64 >>> ((Int32.ofInt 16).toInt64.toUInt64 &&& Int64.toUInt64 63)).toInt64)) + (((((((((y0 - (((y0.toUInt64 >>> ((Int32.ofInt 1).toInt64.toUInt64 &&& Int64.toUInt64 63)).toInt64) &&& (6148914691236517205 : Int64))) &&& (3689348814741910323 : Int64)) + ((((y0 - (((y0.toUInt64 >>> ((Int32.ofInt 1).toInt64.toUInt64 &&& Int64.toUInt64 63)).toInt64) &&& (6148914691236517205 : Int64))).toUInt64 >>> ((Int32.ofInt 2).toInt64.toUInt64 &&& Int64.toUInt64 63)).toInt64) &&& (3689348814741910323 : Int64))) + (((((y0 - (((y0.toUInt64 >>> ((Int32.ofInt 1).toInt64.toUInt64 &&& Int64.toUInt64 63)).toInt64) &&& (6148914691236517205 : Int64))) &&& (3689348814741910323 : Int64)) + ((((y0 - (((y0.toUInt64 >>> ((Int32.ofInt 1).toInt64.toUInt64 &&& Int64.toUInt64 63)).toInt64) &&& (6148914691236517205 : Int64))).toUInt64 >>> ((Int32.ofInt 2).toInt64.toUInt64 &&& Int64.toUInt64 63)).toInt64) &&& (3689348814741910323 : Int64))).toUInt64 >>> ((Int32.ofInt 4).toInt64.toUInt64 &&& Int64.toUInt64 63)).toInt64)) &&& (1085102592571150095 : Int64)) + (((((((y0 - (((y0.toUInt64 >>> ((Int32.ofInt 1).toInt64.toUInt64 &&& Int64.toUInt64 63)).toInt64) &&& (6148914691236517205 : Int64))) &&& (3689348814741910323 : Int64)) + ((((y0 - (((y0.toUInt64 >>> ((Int32.ofInt 1).toInt64.toUInt64 &&& Int64.toUInt64 63)).toInt64) &&& (6148914691236517205 : Int64))).toUInt64 >>> ((Int32.ofInt 2).toInt64.toUInt64 &&& Int64.toUInt64 63)).toInt64) &&& (3689348814741910323 : Int64))) + (((((y0 - (((y0.toUInt64 >>> ((Int32.ofInt 1).toInt64.toUInt64 &&& Int64.toUInt64 63)).toInt64) &&& (6148914691236517205 : Int64))) &&& (3689348814741910323 : Int64)) + ((((y0 - (((y0.toUInt64 >>> ((Int32.ofInt 1).toInt64.toUInt64 &&& Int64.toUInt64 63)).toInt64) &&& (6148914691236517205 : Int64))).toUInt64 >>> ((Int32.ofInt 2).toInt64.toUInt64 &&& Int64.toUInt64 63)).toInt64) &&& (3689348814741910323 : Int64))).toUInt64 >>> ((Int32.ofInt 4).toInt64.toUInt64 &&& Int64.toUInt64 63)).toInt64)) &&& (1085102592571150095 : Int64)).toUInt64 >>> ((Int32.ofInt 8).toInt64.toUInt64 &&& Int64.toUInt64 63)).toInt64)) + ((((((((y0 - (((y0.toUInt64 >>> ((Int32.ofInt 1).toInt64.toUInt64 &&& Int64.toUInt64 63)).toInt64) &&& (6148914691236517205 : Int64))) &&& (3689348814741910323 : Int64)) + ((((y0 - (((y0.toUInt64 >>> ((Int32.ofInt 1).toInt64.toUInt64 &&& Int64.toUInt64 63)).toInt64) &&& (6148914691236517205 : Int64))).toUInt64 >>> ((Int32.ofInt 2).toInt64.toUInt64 &&& Int64.toUInt64 63)).toInt64) &&& (3689348814741910323 : Int64))) + (((((y0 - (((y0.toUInt64 >>> ((Int32.ofInt 1).toInt64.toUInt64 &&& Int64.toUInt64 63)).toInt64) &&& (6148914691236517205 : Int64))) &&& (3689348814741910323 : Int64)) + ((((y0 - (((y0.toUInt64 >>> ((Int32.ofInt 1).toInt64.toUInt64 &&& Int64.toUInt64 63)).toInt64) &&& (6148914691236517205 : Int64))).toUInt64 >>> ((Int32.ofInt 2).toInt64.toUInt64 &&& Int64.toUInt64 63)).toInt64) &&& (3689348814741910323 : Int64))).toUInt64 >>> ((Int32.ofInt 4).toInt64.toUInt64 &&& Int64.toUInt64 63)).toInt64)) &&& (1085102592571150095 : Int64)) + (((((((y0 - (((y0.toUInt64 >>> ((Int32.ofInt 1).toInt64.toUInt64 &&& Int64.toUInt64 63)).toInt64) &&& (6148914691236517205 : Int64))) &&& (3689348814741910323 : Int64)) + ((((y0 - (((y0.toUInt64 >>> ((Int32.ofInt 1).toInt64.toUInt64 &&& Int64.toUInt64 63)).toInt64) &&& (6148914691236517205 : Int64))).toUInt64 >>> ((Int32.ofInt 2).toInt64.toUInt64 &&& Int64.toUInt64 63)).toInt64) &&& (3689348814741910323 : Int64))) + (((((y0 - (((y0.toUInt64 >>> ((Int32.ofInt 1).toInt64.toUInt64 &&& Int64.toUInt64 63)).toInt64) &&& (6148914691236517205 : Int64))) &&& (3689348814741910323 : Int64)) + ((((y0 - (((y0.toUInt64 >>> ((Int32.ofInt 1).toInt64.toUInt64 &&& Int64.toUInt64 63)).toInt64) &&& (6148914691236517205 : Int64))).toUInt64 >>> ((Int32.ofInt 2).toInt64.toUInt64 &&& Int64.toUInt64 63)).toInt64) &&& (3689348814741910323 : Int64))).toUInt64 >>> ((Int32.ofInt 4).toInt64.toUInt64 &&& Int64.toUInt64 63)).toInt64)) &&& (1085102592571150095 : Int64)).toUInt64 >>> ((Int32.ofInt 8).toInt64.toUInt64 &&& Int64.toUInt64 63)).toInt64)).toUInt64 >>> ((Int32.ofInt 16).toInt64.toUInt64 &&& Int64.toUInt64 63)).toInt64)).toUInt64 >>> ((Int32.ofInt 32).toInt64.toUInt64 &&& Int64.toUInt64 63)).toInt64)).toInt32.toInt) &&& Int32.ofInt 127 = Int32.ofInt z1) ∧ (Q z1 μ)) : kJ13_bitCount_95d88 d y0 μ Q := by
  refine Cl_of rfl (Nat.le_of_ble_eq_true rfl) rfl ?_
  show Z SS none mJ13_bitCount_95d88 d 0 0 (qI Q) 0 [some (.long (y0)), none] [] μ 0 0
  refine Z_lload_n (pc' := 1) dJ13_bitCount_95d88_0 rfl rfl ?_
  refine Z_lload_n (pc' := 2) dJ13_bitCount_95d88_1 rfl rfl ?_
  refine Z_iconst (pc' := 3) dJ13_bitCount_95d88_2 rfl ?_
  refine Z_lushr (pc' := 4) dJ13_bitCount_95d88_3 rfl ?_
  refine Z_ldc2 (pc' := 7) dJ13_bitCount_95d88_4 rfl kJ13_314 ?_
  refine Z_land (pc' := 8) dJ13_bitCount_95d88_7 rfl ?_
  refine Z_lsub (pc' := 9) dJ13_bitCount_95d88_8 rfl ?_
  refine Z_lstore_n (pc' := 10) (lo' := [some (.long ((y0 - (((y0.toUInt64 >>> ((Int32.ofInt 1).toInt64.toUInt64 &&& Int64.toUInt64 63)).toInt64) &&& (6148914691236517205 : Int64))))), none]) dJ13_bitCount_95d88_9 rfl (by decide) rfl ?_
  refine Z_lload_n (pc' := 11) dJ13_bitCount_95d88_10 rfl rfl ?_
  refine Z_ldc2 (pc' := 14) dJ13_bitCount_95d88_11 rfl kJ13_316 ?_
  refine Z_land (pc' := 15) dJ13_bitCount_95d88_14 rfl ?_
  refine Z_lload_n (pc' := 16) dJ13_bitCount_95d88_15 rfl rfl ?_
  refine Z_iconst (pc' := 17) dJ13_bitCount_95d88_16 rfl ?_
  refine Z_lushr (pc' := 18) dJ13_bitCount_95d88_17 rfl ?_
  refine Z_ldc2 (pc' := 21) dJ13_bitCount_95d88_18 rfl kJ13_316 ?_
  refine Z_land (pc' := 22) dJ13_bitCount_95d88_21 rfl ?_
  refine Z_ladd (pc' := 23) dJ13_bitCount_95d88_22 rfl ?_
  refine Z_lstore_n (pc' := 24) (lo' := [some (.long ((((y0 - (((y0.toUInt64 >>> ((Int32.ofInt 1).toInt64.toUInt64 &&& Int64.toUInt64 63)).toInt64) &&& (6148914691236517205 : Int64))) &&& (3689348814741910323 : Int64)) + ((((y0 - (((y0.toUInt64 >>> ((Int32.ofInt 1).toInt64.toUInt64 &&& Int64.toUInt64 63)).toInt64) &&& (6148914691236517205 : Int64))).toUInt64 >>> ((Int32.ofInt 2).toInt64.toUInt64 &&& Int64.toUInt64 63)).toInt64) &&& (3689348814741910323 : Int64))))), none]) dJ13_bitCount_95d88_23 rfl (by decide) rfl ?_
  refine Z_lload_n (pc' := 25) dJ13_bitCount_95d88_24 rfl rfl ?_
  refine Z_lload_n (pc' := 26) dJ13_bitCount_95d88_25 rfl rfl ?_
  refine Z_iconst (pc' := 27) dJ13_bitCount_95d88_26 rfl ?_
  refine Z_lushr (pc' := 28) dJ13_bitCount_95d88_27 rfl ?_
  refine Z_ladd (pc' := 29) dJ13_bitCount_95d88_28 rfl ?_
  refine Z_ldc2 (pc' := 32) dJ13_bitCount_95d88_29 rfl kJ13_318 ?_
  refine Z_land (pc' := 33) dJ13_bitCount_95d88_32 rfl ?_
  refine Z_lstore_n (pc' := 34) (lo' := [some (.long ((((((y0 - (((y0.toUInt64 >>> ((Int32.ofInt 1).toInt64.toUInt64 &&& Int64.toUInt64 63)).toInt64) &&& (6148914691236517205 : Int64))) &&& (3689348814741910323 : Int64)) + ((((y0 - (((y0.toUInt64 >>> ((Int32.ofInt 1).toInt64.toUInt64 &&& Int64.toUInt64 63)).toInt64) &&& (6148914691236517205 : Int64))).toUInt64 >>> ((Int32.ofInt 2).toInt64.toUInt64 &&& Int64.toUInt64 63)).toInt64) &&& (3689348814741910323 : Int64))) + (((((y0 - (((y0.toUInt64 >>> ((Int32.ofInt 1).toInt64.toUInt64 &&& Int64.toUInt64 63)).toInt64) &&& (6148914691236517205 : Int64))) &&& (3689348814741910323 : Int64)) + ((((y0 - (((y0.toUInt64 >>> ((Int32.ofInt 1).toInt64.toUInt64 &&& Int64.toUInt64 63)).toInt64) &&& (6148914691236517205 : Int64))).toUInt64 >>> ((Int32.ofInt 2).toInt64.toUInt64 &&& Int64.toUInt64 63)).toInt64) &&& (3689348814741910323 : Int64))).toUInt64 >>> ((Int32.ofInt 4).toInt64.toUInt64 &&& Int64.toUInt64 63)).toInt64)) &&& (1085102592571150095 : Int64)))), none]) dJ13_bitCount_95d88_33 rfl (by decide) rfl ?_
  refine Z_lload_n (pc' := 35) dJ13_bitCount_95d88_34 rfl rfl ?_
  refine Z_lload_n (pc' := 36) dJ13_bitCount_95d88_35 rfl rfl ?_
  refine Z_bipush (pc' := 38) dJ13_bitCount_95d88_36 rfl rfl ?_
  refine Z_lushr (pc' := 39) dJ13_bitCount_95d88_38 rfl ?_
  refine Z_ladd (pc' := 40) dJ13_bitCount_95d88_39 rfl ?_
  refine Z_lstore_n (pc' := 41) (lo' := [some (.long (((((((y0 - (((y0.toUInt64 >>> ((Int32.ofInt 1).toInt64.toUInt64 &&& Int64.toUInt64 63)).toInt64) &&& (6148914691236517205 : Int64))) &&& (3689348814741910323 : Int64)) + ((((y0 - (((y0.toUInt64 >>> ((Int32.ofInt 1).toInt64.toUInt64 &&& Int64.toUInt64 63)).toInt64) &&& (6148914691236517205 : Int64))).toUInt64 >>> ((Int32.ofInt 2).toInt64.toUInt64 &&& Int64.toUInt64 63)).toInt64) &&& (3689348814741910323 : Int64))) + (((((y0 - (((y0.toUInt64 >>> ((Int32.ofInt 1).toInt64.toUInt64 &&& Int64.toUInt64 63)).toInt64) &&& (6148914691236517205 : Int64))) &&& (3689348814741910323 : Int64)) + ((((y0 - (((y0.toUInt64 >>> ((Int32.ofInt 1).toInt64.toUInt64 &&& Int64.toUInt64 63)).toInt64) &&& (6148914691236517205 : Int64))).toUInt64 >>> ((Int32.ofInt 2).toInt64.toUInt64 &&& Int64.toUInt64 63)).toInt64) &&& (3689348814741910323 : Int64))).toUInt64 >>> ((Int32.ofInt 4).toInt64.toUInt64 &&& Int64.toUInt64 63)).toInt64)) &&& (1085102592571150095 : Int64)) + (((((((y0 - (((y0.toUInt64 >>> ((Int32.ofInt 1).toInt64.toUInt64 &&& Int64.toUInt64 63)).toInt64) &&& (6148914691236517205 : Int64))) &&& (3689348814741910323 : Int64)) + ((((y0 - (((y0.toUInt64 >>> ((Int32.ofInt 1).toInt64.toUInt64 &&& Int64.toUInt64 63)).toInt64) &&& (6148914691236517205 : Int64))).toUInt64 >>> ((Int32.ofInt 2).toInt64.toUInt64 &&& Int64.toUInt64 63)).toInt64) &&& (3689348814741910323 : Int64))) + (((((y0 - (((y0.toUInt64 >>> ((Int32.ofInt 1).toInt64.toUInt64 &&& Int64.toUInt64 63)).toInt64) &&& (6148914691236517205 : Int64))) &&& (3689348814741910323 : Int64)) + ((((y0 - (((y0.toUInt64 >>> ((Int32.ofInt 1).toInt64.toUInt64 &&& Int64.toUInt64 63)).toInt64) &&& (6148914691236517205 : Int64))).toUInt64 >>> ((Int32.ofInt 2).toInt64.toUInt64 &&& Int64.toUInt64 63)).toInt64) &&& (3689348814741910323 : Int64))).toUInt64 >>> ((Int32.ofInt 4).toInt64.toUInt64 &&& Int64.toUInt64 63)).toInt64)) &&& (1085102592571150095 : Int64)).toUInt64 >>> ((Int32.ofInt 8).toInt64.toUInt64 &&& Int64.toUInt64 63)).toInt64)))), none]) dJ13_bitCount_95d88_40 rfl (by decide) rfl ?_
  refine Z_lload_n (pc' := 42) dJ13_bitCount_95d88_41 rfl rfl ?_
  refine Z_lload_n (pc' := 43) dJ13_bitCount_95d88_42 rfl rfl ?_
  refine Z_bipush (pc' := 45) dJ13_bitCount_95d88_43 rfl rfl ?_
  refine Z_lushr (pc' := 46) dJ13_bitCount_95d88_45 rfl ?_
  refine Z_ladd (pc' := 47) dJ13_bitCount_95d88_46 rfl ?_
  refine Z_lstore_n (pc' := 48) (lo' := [some (.long ((((((((y0 - (((y0.toUInt64 >>> ((Int32.ofInt 1).toInt64.toUInt64 &&& Int64.toUInt64 63)).toInt64) &&& (6148914691236517205 : Int64))) &&& (3689348814741910323 : Int64)) + ((((y0 - (((y0.toUInt64 >>> ((Int32.ofInt 1).toInt64.toUInt64 &&& Int64.toUInt64 63)).toInt64) &&& (6148914691236517205 : Int64))).toUInt64 >>> ((Int32.ofInt 2).toInt64.toUInt64 &&& Int64.toUInt64 63)).toInt64) &&& (3689348814741910323 : Int64))) + (((((y0 - (((y0.toUInt64 >>> ((Int32.ofInt 1).toInt64.toUInt64 &&& Int64.toUInt64 63)).toInt64) &&& (6148914691236517205 : Int64))) &&& (3689348814741910323 : Int64)) + ((((y0 - (((y0.toUInt64 >>> ((Int32.ofInt 1).toInt64.toUInt64 &&& Int64.toUInt64 63)).toInt64) &&& (6148914691236517205 : Int64))).toUInt64 >>> ((Int32.ofInt 2).toInt64.toUInt64 &&& Int64.toUInt64 63)).toInt64) &&& (3689348814741910323 : Int64))).toUInt64 >>> ((Int32.ofInt 4).toInt64.toUInt64 &&& Int64.toUInt64 63)).toInt64)) &&& (1085102592571150095 : Int64)) + (((((((y0 - (((y0.toUInt64 >>> ((Int32.ofInt 1).toInt64.toUInt64 &&& Int64.toUInt64 63)).toInt64) &&& (6148914691236517205 : Int64))) &&& (3689348814741910323 : Int64)) + ((((y0 - (((y0.toUInt64 >>> ((Int32.ofInt 1).toInt64.toUInt64 &&& Int64.toUInt64 63)).toInt64) &&& (6148914691236517205 : Int64))).toUInt64 >>> ((Int32.ofInt 2).toInt64.toUInt64 &&& Int64.toUInt64 63)).toInt64) &&& (3689348814741910323 : Int64))) + (((((y0 - (((y0.toUInt64 >>> ((Int32.ofInt 1).toInt64.toUInt64 &&& Int64.toUInt64 63)).toInt64) &&& (6148914691236517205 : Int64))) &&& (3689348814741910323 : Int64)) + ((((y0 - (((y0.toUInt64 >>> ((Int32.ofInt 1).toInt64.toUInt64 &&& Int64.toUInt64 63)).toInt64) &&& (6148914691236517205 : Int64))).toUInt64 >>> ((Int32.ofInt 2).toInt64.toUInt64 &&& Int64.toUInt64 63)).toInt64) &&& (3689348814741910323 : Int64))).toUInt64 >>> ((Int32.ofInt 4).toInt64.toUInt64 &&& Int64.toUInt64 63)).toInt64)) &&& (1085102592571150095 : Int64)).toUInt64 >>> ((Int32.ofInt 8).toInt64.toUInt64 &&& Int64.toUInt64 63)).toInt64)) + ((((((((y0 - (((y0.toUInt64 >>> ((Int32.ofInt 1).toInt64.toUInt64 &&& Int64.toUInt64 63)).toInt64) &&& (6148914691236517205 : Int64))) &&& (3689348814741910323 : Int64)) + ((((y0 - (((y0.toUInt64 >>> ((Int32.ofInt 1).toInt64.toUInt64 &&& Int64.toUInt64 63)).toInt64) &&& (6148914691236517205 : Int64))).toUInt64 >>> ((Int32.ofInt 2).toInt64.toUInt64 &&& Int64.toUInt64 63)).toInt64) &&& (3689348814741910323 : Int64))) + (((((y0 - (((y0.toUInt64 >>> ((Int32.ofInt 1).toInt64.toUInt64 &&& Int64.toUInt64 63)).toInt64) &&& (6148914691236517205 : Int64))) &&& (3689348814741910323 : Int64)) + ((((y0 - (((y0.toUInt64 >>> ((Int32.ofInt 1).toInt64.toUInt64 &&& Int64.toUInt64 63)).toInt64) &&& (6148914691236517205 : Int64))).toUInt64 >>> ((Int32.ofInt 2).toInt64.toUInt64 &&& Int64.toUInt64 63)).toInt64) &&& (3689348814741910323 : Int64))).toUInt64 >>> ((Int32.ofInt 4).toInt64.toUInt64 &&& Int64.toUInt64 63)).toInt64)) &&& (1085102592571150095 : Int64)) + (((((((y0 - (((y0.toUInt64 >>> ((Int32.ofInt 1).toInt64.toUInt64 &&& Int64.toUInt64 63)).toInt64) &&& (6148914691236517205 : Int64))) &&& (3689348814741910323 : Int64)) + ((((y0 - (((y0.toUInt64 >>> ((Int32.ofInt 1).toInt64.toUInt64 &&& Int64.toUInt64 63)).toInt64) &&& (6148914691236517205 : Int64))).toUInt64 >>> ((Int32.ofInt 2).toInt64.toUInt64 &&& Int64.toUInt64 63)).toInt64) &&& (3689348814741910323 : Int64))) + (((((y0 - (((y0.toUInt64 >>> ((Int32.ofInt 1).toInt64.toUInt64 &&& Int64.toUInt64 63)).toInt64) &&& (6148914691236517205 : Int64))) &&& (3689348814741910323 : Int64)) + ((((y0 - (((y0.toUInt64 >>> ((Int32.ofInt 1).toInt64.toUInt64 &&& Int64.toUInt64 63)).toInt64) &&& (6148914691236517205 : Int64))).toUInt64 >>> ((Int32.ofInt 2).toInt64.toUInt64 &&& Int64.toUInt64 63)).toInt64) &&& (3689348814741910323 : Int64))).toUInt64 >>> ((Int32.ofInt 4).toInt64.toUInt64 &&& Int64.toUInt64 63)).toInt64)) &&& (1085102592571150095 : Int64)).toUInt64 >>> ((Int32.ofInt 8).toInt64.toUInt64 &&& Int64.toUInt64 63)).toInt64)).toUInt64 >>> ((Int32.ofInt 16).toInt64.toUInt64 &&& Int64.toUInt64 63)).toInt64)))), none]) dJ13_bitCount_95d88_47 rfl (by decide) rfl ?_
  refine Z_lload_n (pc' := 49) dJ13_bitCount_95d88_48 rfl rfl ?_
  refine Z_lload_n (pc' := 50) dJ13_bitCount_95d88_49 rfl rfl ?_
  refine Z_bipush (pc' := 52) dJ13_bitCount_95d88_50 rfl rfl ?_
  refine Z_lushr (pc' := 53) dJ13_bitCount_95d88_52 rfl ?_
  refine Z_ladd (pc' := 54) dJ13_bitCount_95d88_53 rfl ?_
  refine Z_lstore_n (pc' := 55) (lo' := [some (.long (((((((((y0 - (((y0.toUInt64 >>> ((Int32.ofInt 1).toInt64.toUInt64 &&& Int64.toUInt64 63)).toInt64) &&& (6148914691236517205 : Int64))) &&& (3689348814741910323 : Int64)) + ((((y0 - (((y0.toUInt64 >>> ((Int32.ofInt 1).toInt64.toUInt64 &&& Int64.toUInt64 63)).toInt64) &&& (6148914691236517205 : Int64))).toUInt64 >>> ((Int32.ofInt 2).toInt64.toUInt64 &&& Int64.toUInt64 63)).toInt64) &&& (3689348814741910323 : Int64))) + (((((y0 - (((y0.toUInt64 >>> ((Int32.ofInt 1).toInt64.toUInt64 &&& Int64.toUInt64 63)).toInt64) &&& (6148914691236517205 : Int64))) &&& (3689348814741910323 : Int64)) + ((((y0 - (((y0.toUInt64 >>> ((Int32.ofInt 1).toInt64.toUInt64 &&& Int64.toUInt64 63)).toInt64) &&& (6148914691236517205 : Int64))).toUInt64 >>> ((Int32.ofInt 2).toInt64.toUInt64 &&& Int64.toUInt64 63)).toInt64) &&& (3689348814741910323 : Int64))).toUInt64 >>> ((Int32.ofInt 4).toInt64.toUInt64 &&& Int64.toUInt64 63)).toInt64)) &&& (1085102592571150095 : Int64)) + (((((((y0 - (((y0.toUInt64 >>> ((Int32.ofInt 1).toInt64.toUInt64 &&& Int64.toUInt64 63)).toInt64) &&& (6148914691236517205 : Int64))) &&& (3689348814741910323 : Int64)) + ((((y0 - (((y0.toUInt64 >>> ((Int32.ofInt 1).toInt64.toUInt64 &&& Int64.toUInt64 63)).toInt64) &&& (6148914691236517205 : Int64))).toUInt64 >>> ((Int32.ofInt 2).toInt64.toUInt64 &&& Int64.toUInt64 63)).toInt64) &&& (3689348814741910323 : Int64))) + (((((y0 - (((y0.toUInt64 >>> ((Int32.ofInt 1).toInt64.toUInt64 &&& Int64.toUInt64 63)).toInt64) &&& (6148914691236517205 : Int64))) &&& (3689348814741910323 : Int64)) + ((((y0 - (((y0.toUInt64 >>> ((Int32.ofInt 1).toInt64.toUInt64 &&& Int64.toUInt64 63)).toInt64) &&& (6148914691236517205 : Int64))).toUInt64 >>> ((Int32.ofInt 2).toInt64.toUInt64 &&& Int64.toUInt64 63)).toInt64) &&& (3689348814741910323 : Int64))).toUInt64 >>> ((Int32.ofInt 4).toInt64.toUInt64 &&& Int64.toUInt64 63)).toInt64)) &&& (1085102592571150095 : Int64)).toUInt64 >>> ((Int32.ofInt 8).toInt64.toUInt64 &&& Int64.toUInt64 63)).toInt64)) + ((((((((y0 - (((y0.toUInt64 >>> ((Int32.ofInt 1).toInt64.toUInt64 &&& Int64.toUInt64 63)).toInt64) &&& (6148914691236517205 : Int64))) &&& (3689348814741910323 : Int64)) + ((((y0 - (((y0.toUInt64 >>> ((Int32.ofInt 1).toInt64.toUInt64 &&& Int64.toUInt64 63)).toInt64) &&& (6148914691236517205 : Int64))).toUInt64 >>> ((Int32.ofInt 2).toInt64.toUInt64 &&& Int64.toUInt64 63)).toInt64) &&& (3689348814741910323 : Int64))) + (((((y0 - (((y0.toUInt64 >>> ((Int32.ofInt 1).toInt64.toUInt64 &&& Int64.toUInt64 63)).toInt64) &&& (6148914691236517205 : Int64))) &&& (3689348814741910323 : Int64)) + ((((y0 - (((y0.toUInt64 >>> ((Int32.ofInt 1).toInt64.toUInt64 &&& Int64.toUInt64 63)).toInt64) &&& (6148914691236517205 : Int64))).toUInt64 >>> ((Int32.ofInt 2).toInt64.toUInt64 &&& Int64.toUInt64 63)).toInt64) &&& (3689348814741910323 : Int64))).toUInt64 >>> ((Int32.ofInt 4).toInt64.toUInt64 &&& Int64.toUInt64 63)).toInt64)) &&& (1085102592571150095 : Int64)) + (((((((y0 - (((y0.toUInt64 >>> ((Int32.ofInt 1).toInt64.toUInt64 &&& Int64.toUInt64 63)).toInt64) &&& (6148914691236517205 : Int64))) &&& (3689348814741910323 : Int64)) + ((((y0 - (((y0.toUInt64 >>> ((Int32.ofInt 1).toInt64.toUInt64 &&& Int64.toUInt64 63)).toInt64) &&& (6148914691236517205 : Int64))).toUInt64 >>> ((Int32.ofInt 2).toInt64.toUInt64 &&& Int64.toUInt64 63)).toInt64) &&& (3689348814741910323 : Int64))) + (((((y0 - (((y0.toUInt64 >>> ((Int32.ofInt 1).toInt64.toUInt64 &&& Int64.toUInt64 63)).toInt64) &&& (6148914691236517205 : Int64))) &&& (3689348814741910323 : Int64)) + ((((y0 - (((y0.toUInt64 >>> ((Int32.ofInt 1).toInt64.toUInt64 &&& Int64.toUInt64 63)).toInt64) &&& (6148914691236517205 : Int64))).toUInt64 >>> ((Int32.ofInt 2).toInt64.toUInt64 &&& Int64.toUInt64 63)).toInt64) &&& (3689348814741910323 : Int64))).toUInt64 >>> ((Int32.ofInt 4).toInt64.toUInt64 &&& Int64.toUInt64 63)).toInt64)) &&& (1085102592571150095 : Int64)).toUInt64 >>> ((Int32.ofInt 8).toInt64.toUInt64 &&& Int64.toUInt64 63)).toInt64)).toUInt64 >>> ((Int32.ofInt 16).toInt64.toUInt64 &&& Int64.toUInt64 63)).toInt64)) + (((((((((y0 - (((y0.toUInt64 >>> ((Int32.ofInt 1).toInt64.toUInt64 &&& Int64.toUInt64 63)).toInt64) &&& (6148914691236517205 : Int64))) &&& (3689348814741910323 : Int64)) + ((((y0 - (((y0.toUInt64 >>> ((Int32.ofInt 1).toInt64.toUInt64 &&& Int64.toUInt64 63)).toInt64) &&& (6148914691236517205 : Int64))).toUInt64 >>> ((Int32.ofInt 2).toInt64.toUInt64 &&& Int64.toUInt64 63)).toInt64) &&& (3689348814741910323 : Int64))) + (((((y0 - (((y0.toUInt64 >>> ((Int32.ofInt 1).toInt64.toUInt64 &&& Int64.toUInt64 63)).toInt64) &&& (6148914691236517205 : Int64))) &&& (3689348814741910323 : Int64)) + ((((y0 - (((y0.toUInt64 >>> ((Int32.ofInt 1).toInt64.toUInt64 &&& Int64.toUInt64 63)).toInt64) &&& (6148914691236517205 : Int64))).toUInt64 >>> ((Int32.ofInt 2).toInt64.toUInt64 &&& Int64.toUInt64 63)).toInt64) &&& (3689348814741910323 : Int64))).toUInt64 >>> ((Int32.ofInt 4).toInt64.toUInt64 &&& Int64.toUInt64 63)).toInt64)) &&& (1085102592571150095 : Int64)) + (((((((y0 - (((y0.toUInt64 >>> ((Int32.ofInt 1).toInt64.toUInt64 &&& Int64.toUInt64 63)).toInt64) &&& (6148914691236517205 : Int64))) &&& (3689348814741910323 : Int64)) + ((((y0 - (((y0.toUInt64 >>> ((Int32.ofInt 1).toInt64.toUInt64 &&& Int64.toUInt64 63)).toInt64) &&& (6148914691236517205 : Int64))).toUInt64 >>> ((Int32.ofInt 2).toInt64.toUInt64 &&& Int64.toUInt64 63)).toInt64) &&& (3689348814741910323 : Int64))) + (((((y0 - (((y0.toUInt64 >>> ((Int32.ofInt 1).toInt64.toUInt64 &&& Int64.toUInt64 63)).toInt64) &&& (6148914691236517205 : Int64))) &&& (3689348814741910323 : Int64)) + ((((y0 - (((y0.toUInt64 >>> ((Int32.ofInt 1).toInt64.toUInt64 &&& Int64.toUInt64 63)).toInt64) &&& (6148914691236517205 : Int64))).toUInt64 >>> ((Int32.ofInt 2).toInt64.toUInt64 &&& Int64.toUInt64 63)).toInt64) &&& (3689348814741910323 : Int64))).toUInt64 >>> ((Int32.ofInt 4).toInt64.toUInt64 &&& Int64.toUInt64 63)).toInt64)) &&& (1085102592571150095 : Int64)).toUInt64 >>> ((Int32.ofInt 8).toInt64.toUInt64 &&& Int64.toUInt64 63)).toInt64)) + ((((((((y0 - (((y0.toUInt64 >>> ((Int32.ofInt 1).toInt64.toUInt64 &&& Int64.toUInt64 63)).toInt64) &&& (6148914691236517205 : Int64))) &&& (3689348814741910323 : Int64)) + ((((y0 - (((y0.toUInt64 >>> ((Int32.ofInt 1).toInt64.toUInt64 &&& Int64.toUInt64 63)).toInt64) &&& (6148914691236517205 : Int64))).toUInt64 >>> ((Int32.ofInt 2).toInt64.toUInt64 &&& Int64.toUInt64 63)).toInt64) &&& (3689348814741910323 : Int64))) + (((((y0 - (((y0.toUInt64 >>> ((Int32.ofInt 1).toInt64.toUInt64 &&& Int64.toUInt64 63)).toInt64) &&& (6148914691236517205 : Int64))) &&& (3689348814741910323 : Int64)) + ((((y0 - (((y0.toUInt64 >>> ((Int32.ofInt 1).toInt64.toUInt64 &&& Int64.toUInt64 63)).toInt64) &&& (6148914691236517205 : Int64))).toUInt64 >>> ((Int32.ofInt 2).toInt64.toUInt64 &&& Int64.toUInt64 63)).toInt64) &&& (3689348814741910323 : Int64))).toUInt64 >>> ((Int32.ofInt 4).toInt64.toUInt64 &&& Int64.toUInt64 63)).toInt64)) &&& (1085102592571150095 : Int64)) + (((((((y0 - (((y0.toUInt64 >>> ((Int32.ofInt 1).toInt64.toUInt64 &&& Int64.toUInt64 63)).toInt64) &&& (6148914691236517205 : Int64))) &&& (3689348814741910323 : Int64)) + ((((y0 - (((y0.toUInt64 >>> ((Int32.ofInt 1).toInt64.toUInt64 &&& Int64.toUInt64 63)).toInt64) &&& (6148914691236517205 : Int64))).toUInt64 >>> ((Int32.ofInt 2).toInt64.toUInt64 &&& Int64.toUInt64 63)).toInt64) &&& (3689348814741910323 : Int64))) + (((((y0 - (((y0.toUInt64 >>> ((Int32.ofInt 1).toInt64.toUInt64 &&& Int64.toUInt64 63)).toInt64) &&& (6148914691236517205 : Int64))) &&& (3689348814741910323 : Int64)) + ((((y0 - (((y0.toUInt64 >>> ((Int32.ofInt 1).toInt64.toUInt64 &&& Int64.toUInt64 63)).toInt64) &&& (6148914691236517205 : Int64))).toUInt64 >>> ((Int32.ofInt 2).toInt64.toUInt64 &&& Int64.toUInt64 63)).toInt64) &&& (3689348814741910323 : Int64))).toUInt64 >>> ((Int32.ofInt 4).toInt64.toUInt64 &&& Int64.toUInt64 63)).toInt64)) &&& (1085102592571150095 : Int64)).toUInt64 >>> ((Int32.ofInt 8).toInt64.toUInt64 &&& Int64.toUInt64 63)).toInt64)).toUInt64 >>> ((Int32.ofInt 16).toInt64.toUInt64 &&& Int64.toUInt64 63)).toInt64)).toUInt64 >>> ((Int32.ofInt 32).toInt64.toUInt64 &&& Int64.toUInt64 63)).toInt64)))), none]) dJ13_bitCount_95d88_54 rfl (by decide) rfl ?_
  refine Z_lload_n (pc' := 56) dJ13_bitCount_95d88_55 rfl rfl ?_
  refine Z_l2i (pc' := 57) dJ13_bitCount_95d88_56 rfl ?_
  refine Z_bipush (pc' := 59) dJ13_bitCount_95d88_57 rfl rfl ?_
  obtain ⟨z1, h2, P⟩ := P
  refine Z_iand (z := z1) (pc' := 60) dJ13_bitCount_95d88_59 rfl h2 ?_
  exact Z_ireturn dJ13_bitCount_95d88_60 rfl (Nat.le_refl 0) (Nat.le_refl 0) P
abbrev zX1_freeCells_4 (d : Nat) (Q : Int → zMem → Prop) (x1 : Int) (x2 : Int) (μ : zMem) : Prop := Z SS none mX1_freeCells (d + 1) 0 0 (qI Q) 4 [some (.ref 2), some (vi x1), some (vi x2)] [] μ 0 0
theorem bX1_freeCells {d : Nat} {Q : Int → zMem → Prop} {μ : zMem}  (P : zX1_freeCells_4 d Q 0 0 μ) : kX1_freeCells (d + 1) μ Q := by
  refine Cl_of rfl (Nat.le_of_ble_eq_true rfl) rfl ?_
  show Z SS none mX1_freeCells (d + 1) 0 0 (qI Q) 0 [some (.ref 2), none, none] [] μ 0 0
  refine Z_iconst (pc' := 1) dX1_freeCells_0 rfl ?_
  refine Z_istore_n (pc' := 2) (lo' := [some (.ref 2), some (vi 0), none]) dX1_freeCells_1 rfl (by decide) rfl ?_
  refine Z_iconst (pc' := 3) dX1_freeCells_2 rfl ?_
  refine Z_istore_n (pc' := 4) (lo' := [some (.ref 2), some (vi 0), some (vi 0)]) dX1_freeCells_3 rfl (by decide) rfl ?_
  exact P
theorem bX1_freeCells_4 {d : Nat} {Q : Int → zMem → Prop} {μ : zMem} {x1 : Int} {x2 : Int} (P : (zIn x2) ∧ ((36 ≤ x2 → (Q x1 μ)) ∧ (¬ (36 ≤ x2) → ((0 ≤ x2) ∧ ((x2 < 36) ∧ (kJ13_bitCount_95d88 d (gL μ 4 x2) μ (fun (r6 : Int) (μ5 : zMem) => zX1_freeCells_4 d Q (x1 + r6) (x2 + 1) μ5))))))) : zX1_freeCells_4 d Q x1 x2 μ := by
  refine Z_iload_n (pc' := 5) dX1_freeCells_4 rfl rfl ?_
  refine Z_bipush (pc' := 7) dX1_freeCells_5 rfl rfl ?_
  have h1 := P.1
  have P := P.2
  refine Z_icmp_ge (tgt := 28) (pc' := 10) dX1_freeCells_7 (by decide) rfl h1 (z_lit rfl) (fun c2 => ?_) (fun c2 => ?_)
  · have P := P.1 c2
    refine Z_iload_n (pc' := 29) dX1_freeCells_28 rfl rfl ?_
    exact Z_ireturn dX1_freeCells_29 rfl (Nat.le_refl 0) (Nat.le_refl 0) P
  · have P := P.2 c2
    refine Z_iload_n (pc' := 11) dX1_freeCells_10 rfl rfl ?_
    refine Z_aload_n (pc' := 12) dX1_freeCells_11 rfl rfl ?_
    refine Z_getR (q := 4) (pc' := 15) dX1_freeCells_12 rfl fX1_22 rfl (Or.inl dd_2) (Or.inl rr_2_3) ?_
    refine Z_iload_n (pc' := 16) dX1_freeCells_15 rfl rfl ?_
    have h3 := P.1
    have P := P.2
    have h4 := P.1
    have P := P.2
    refine Z_laload (pc' := 17) dX1_freeCells_16 rfl (Or.inl dd_4) (Nat.le_of_ble_eq_true rfl) h3 h4 ?_
    refine Z_callS0 (M' := mJ13_bitCount_95d88) (pc' := 20) (st := [vi x1]) [.long ((gL μ 4 x2))] dX1_freeCells_17 rfl sJ13_bitCount_95d88 lX1_40 rfl (Nat.le_of_ble_eq_true rfl) (Nat.le_refl 0) (Nat.le_refl 0) ?_
    refine Cl_mono P ?_
    rintro _ μ5 ⟨r6, rfl, P⟩
    show Z SS none mX1_freeCells (d + 1) 0 0 (qI Q) 20 [some (.ref 2), some (vi x1), some (vi x2)] [vi r6, vi x1] μ5 0 0
    refine Z_iadd (pc' := 21) dX1_freeCells_20 rfl ?_
    refine Z_istore_n (pc' := 22) (lo' := [some (.ref 2), some (vi (x1 + r6)), some (vi x2)]) dX1_freeCells_21 rfl (by decide) rfl ?_
    refine Z_iinc (pc' := 25) (lo' := [some (.ref 2), some (vi (x1 + r6)), some (vi (x2 + 1))]) dX1_freeCells_22 rfl (by decide) rfl rfl ?_
    refine Z_goto (tgt := 4) dX1_freeCells_25 (by decide) ?_
    exact P
theorem bX2_init {d : Nat} {Q : zMem → Prop} {μ : zMem} {p0 : Nat} {x1 : Int} {x2 : Int} (P : (0 + 1 ≤ 3) ∧ ((0 + 5 ≤ 173) ∧ (∀ q1 : Nat, q1 = (gD μ).length → (((gD (aD μ 9 5))[p0]? = some (2, 0)) ∧ ((SS.1 p0 2 = none ∨ SS.1 p0 2 = some q1) ∧ (((0 + 1) + 1 ≤ 3) ∧ (((0 + 5) + 98 ≤ 173) ∧ (∀ q7 : Nat, q7 = (gD (sR (aD μ 9 5) p0 2 (some q1))).length → (((gD (aD (sR (aD μ 9 5) p0 2 (some q1)) 9 98))[p0]? = some (2, 0)) ∧ ((SS.1 p0 3 = none ∨ SS.1 p0 3 = some q7) ∧ ((((0 + 1) + 1) + 1 ≤ 3) ∧ ((((0 + 5) + 98) + 70 ≤ 173) ∧ (∀ q13 : Nat, q13 = (gD (sR (aD (sR (aD μ 9 5) p0 2 (some q1)) 9 98) p0 3 (some q7))).length → (((gD (aD (sR (aD (sR (aD μ 9 5) p0 2 (some q1)) 9 98) p0 3 (some q7)) 9 70))[p0]? = some (2, 0)) ∧ ((SS.1 p0 4 = none ∨ SS.1 p0 4 = some q13) ∧ (((gD (sR (aD (sR (aD (sR (aD μ 9 5) p0 2 (some q1)) 9 98) p0 3 (some q7)) 9 70) p0 4 (some q13)))[p0]? = some (2, 0)) ∧ (((((0 + 1) + 1) + 1) ≤ 3) ∧ (((((0 + 5) + 98) + 70) ≤ 173) ∧ (Q (sI (sI (sR (aD (sR (aD (sR (aD μ 9 5) p0 2 (some q1)) 9 98) p0 3 (some q7)) 9 70) p0 4 (some q13)) p0 0 x1) p0 1 x2)))))))))))))))))))) : kX2_init (d + 1) p0 x1 x2 μ Q := by
  refine Cl_of rfl (Nat.le_of_ble_eq_true rfl) rfl ?_
  show Z SS none mX2_init (d + 1) 3 173 (qV Q) 0 [some (.ref p0), some (vi x1), some (vi x2)] [] μ 0 0
  refine Z_aload_n (pc' := 1) dX2_init_0 rfl rfl ?_
  refine Z_objInit (pc' := 4) dX2_init_1 rfl lX2_3 l_oi l_oc (Nat.le_of_ble_eq_true rfl) ?_
  refine Z_aload_n (pc' := 5) dX2_init_4 rfl rfl ?_
  refine Z_iconst (pc' := 6) dX2_init_5 rfl ?_
  obtain ⟨q1, h2⟩ : ∃ q : Nat, q = (gD μ).length := ⟨_, rfl⟩
  have h3 := P.1
  have P := P.2
  have h4 := P.1
  have P := P.2
  refine Z_newI (pc' := 8) dX2_init_6 rfl (by decide) (by decide) h3 h4 l_ai ?_
  show Z SS none mX2_init (d + 1) 3 173 (qV Q) 8 _ _ (aD μ 9 5) (0 + 1) (0 + 5)
  rw [← h2]
  have P := P q1 h2
  have h5 := P.1
  have P := P.2
  have h6 := P.1
  have P := P.2
  refine Z_putR' (ji := 2) (pc' := 11) dX2_init_8 rfl rfl fX2_9 (Or.inr ⟨rfl, rfl⟩) rfl (Or.inr h5) h6 ?_
  refine Z_aload_n (pc' := 12) dX2_init_11 rfl rfl ?_
  refine Z_bipush (pc' := 14) dX2_init_12 rfl rfl ?_
  obtain ⟨q7, h8⟩ : ∃ q : Nat, q = (gD (sR (aD μ 9 5) p0 2 (some q1))).length := ⟨_, rfl⟩
  have h9 := P.1
  have P := P.2
  have h10 := P.1
  have P := P.2
  refine Z_newI (pc' := 16) dX2_init_14 rfl (by decide) (by decide) h9 h10 l_ai ?_
  show Z SS none mX2_init (d + 1) 3 173 (qV Q) 16 _ _ (aD (sR (aD μ 9 5) p0 2 (some q1)) 9 98) ((0 + 1) + 1) ((0 + 5) + 98)
  rw [← h8]
  have P := P q7 h8
  have h11 := P.1
  have P := P.2
  have h12 := P.1
  have P := P.2
  refine Z_putR' (ji := 3) (pc' := 19) dX2_init_16 rfl rfl fX2_15 (Or.inr ⟨rfl, rfl⟩) rfl (Or.inr h11) h12 ?_
  refine Z_aload_n (pc' := 20) dX2_init_19 rfl rfl ?_
  refine Z_bipush (pc' := 22) dX2_init_20 rfl rfl ?_
  obtain ⟨q13, h14⟩ : ∃ q : Nat, q = (gD (sR (aD (sR (aD μ 9 5) p0 2 (some q1)) 9 98) p0 3 (some q7))).length := ⟨_, rfl⟩
  have h15 := P.1
  have P := P.2
  have h16 := P.1
  have P := P.2
  refine Z_newI (pc' := 24) dX2_init_22 rfl (by decide) (by decide) h15 h16 l_ai ?_
  show Z SS none mX2_init (d + 1) 3 173 (qV Q) 24 _ _ (aD (sR (aD (sR (aD μ 9 5) p0 2 (some q1)) 9 98) p0 3 (some q7)) 9 70) (((0 + 1) + 1) + 1) (((0 + 5) + 98) + 70)
  rw [← h14]
  have P := P q13 h14
  have h17 := P.1
  have P := P.2
  have h18 := P.1
  have P := P.2
  refine Z_putR' (ji := 4) (pc' := 27) dX2_init_24 rfl rfl fX2_18 (Or.inr ⟨rfl, rfl⟩) rfl (Or.inr h17) h18 ?_
  refine Z_aload_n (pc' := 28) dX2_init_27 rfl rfl ?_
  refine Z_iload_n (pc' := 29) dX2_init_28 rfl rfl ?_
  have h19 := P.1
  have P := P.2
  refine Z_putI' (ji := 0) (pc' := 32) dX2_init_29 rfl rfl fX2_21 (Or.inr ⟨rfl, rfl⟩) rfl (Or.inr h19) ?_
  refine Z_aload_n (pc' := 33) dX2_init_32 rfl rfl ?_
  refine Z_iload_n (pc' := 34) dX2_init_33 rfl rfl ?_
  refine Z_putI' (ji := 1) (pc' := 37) dX2_init_34 rfl rfl fX2_25 (Or.inr ⟨rfl, rfl⟩) rfl (Or.inr h19) ?_
  have h20 := P.1
  have P := P.2
  have h21 := P.1
  have P := P.2
  exact Z_return dX2_init_37 rfl h20 h21 P
theorem bX2_putTotals {d : Nat} {Q : zMem → Prop} {μ : zMem} {p0 : Nat} {x1 : Int} {x2 : Int} {x3 : Int} {x4 : Int} (P : ((gD μ)[p0]? = some (2, 0)) ∧ ((gR μ p0 2 = some (p0 + 1)) ∧ ((zA μ (p0 + 1) 0) ∧ ((zA μ (p0 + 1) 1) ∧ ((zA μ (p0 + 1) 2) ∧ ((zA μ (p0 + 1) 3) ∧ ((zA μ (p0 + 1) 4) ∧ (Q (sI (sI (sI (sI (sI μ (p0 + 1) 0 x1) (p0 + 1) 1 (gI (sI μ (p0 + 1) 0 x1) p0 0)) (p0 + 1) 2 x2) (p0 + 1) 3 x3) (p0 + 1) 4 x4))))))))) : kX2_putTotals d p0 x1 x2 x3 x4 μ Q := by
  refine Cl_of rfl (Nat.le_of_ble_eq_true rfl) rfl ?_
  show Z SS none mX2_putTotals d 0 0 (qV Q) 0 [some (.ref p0), some (vi x1), some (vi x2), some (vi x3), some (vi x4)] [] μ 0 0
  refine Z_aload_n (pc' := 1) dX2_putTotals_0 rfl rfl ?_
  have h1 := P.1
  have P := P.2
  have h2 := P.1
  have P := P.2
  refine Z_getR (q := p0 + 1) (pc' := 4) dX2_putTotals_1 rfl fX2_9 rfl (Or.inr h1) (Or.inr h2) ?_
  refine Z_iconst (pc' := 5) dX2_putTotals_4 rfl ?_
  refine Z_iload_n (pc' := 6) dX2_putTotals_5 rfl rfl ?_
  have h3 := P.1
  have P := P.2
  refine Z_iastoreA (pc' := 7) dX2_putTotals_6 rfl h3 ?_
  refine Z_aload_n (pc' := 8) dX2_putTotals_7 rfl rfl ?_
  refine Z_getR (q := p0 + 1) (pc' := 11) dX2_putTotals_8 rfl fX2_9 rfl (Or.inr h1) (Or.inr h2) ?_
  refine Z_iconst (pc' := 12) dX2_putTotals_11 rfl ?_
  refine Z_aload_n (pc' := 13) dX2_putTotals_12 rfl rfl ?_
  refine Z_getI' (ji := 0) (pc' := 16) dX2_putTotals_13 rfl rfl fX2_21 rfl (Or.inr h1) ?_
  have h4 := P.1
  have P := P.2
  refine Z_iastoreA (pc' := 17) dX2_putTotals_16 rfl h4 ?_
  refine Z_aload_n (pc' := 18) dX2_putTotals_17 rfl rfl ?_
  refine Z_getR (q := p0 + 1) (pc' := 21) dX2_putTotals_18 rfl fX2_9 rfl (Or.inr h1) (Or.inr h2) ?_
  refine Z_iconst (pc' := 22) dX2_putTotals_21 rfl ?_
  refine Z_iload_n (pc' := 23) dX2_putTotals_22 rfl rfl ?_
  have h5 := P.1
  have P := P.2
  refine Z_iastoreA (pc' := 24) dX2_putTotals_23 rfl h5 ?_
  refine Z_aload_n (pc' := 25) dX2_putTotals_24 rfl rfl ?_
  refine Z_getR (q := p0 + 1) (pc' := 28) dX2_putTotals_25 rfl fX2_9 rfl (Or.inr h1) (Or.inr h2) ?_
  refine Z_iconst (pc' := 29) dX2_putTotals_28 rfl ?_
  refine Z_iload_n (pc' := 30) dX2_putTotals_29 rfl rfl ?_
  have h6 := P.1
  have P := P.2
  refine Z_iastoreA (pc' := 31) dX2_putTotals_30 rfl h6 ?_
  refine Z_aload_n (pc' := 32) dX2_putTotals_31 rfl rfl ?_
  refine Z_getR (q := p0 + 1) (pc' := 35) dX2_putTotals_32 rfl fX2_9 rfl (Or.inr h1) (Or.inr h2) ?_
  refine Z_iconst (pc' := 36) dX2_putTotals_35 rfl ?_
  refine Z_iload (pc' := 38) dX2_putTotals_36 rfl rfl ?_
  have h7 := P.1
  have P := P.2
  refine Z_iastoreA (pc' := 39) dX2_putTotals_38 rfl h7 ?_
  exact Z_return dX2_putTotals_39 rfl (Nat.le_refl 0) (Nat.le_refl 0) P
theorem bX3_init {S : zS} {d : Nat} {Q : zMem → Prop} {μ : zMem} {p0 : Nat} (P : ((gD μ)[p0]? = some (3, 0)) ∧ ((0 + 1 ≤ 6) ∧ ((0 + 14 ≤ 448) ∧ (∀ q2 : Nat, q2 = (gD (sI μ p0 0 0)).length → (((gD (aD (sI μ p0 0 0) 9 14))[p0]? = some (3, 0)) ∧ ((S.1 p0 1 = none ∨ S.1 p0 1 = some q2) ∧ (((0 + 1) + 1 ≤ 6) ∧ (((0 + 14) + 14 ≤ 448) ∧ (∀ q8 : Nat, q8 = (gD (sR (aD (sI μ p0 0 0) 9 14) p0 1 (some q2))).length → (((gD (aD (sR (aD (sI μ p0 0 0) 9 14) p0 1 (some q2)) 9 14))[p0]? = some (3, 0)) ∧ ((S.1 p0 2 = none ∨ S.1 p0 2 = some q8) ∧ ((((0 + 1) + 1) + 1 ≤ 6) ∧ ((((0 + 14) + 14) + 14 ≤ 448) ∧ (∀ q14 : Nat, q14 = (gD (sR (aD (sR (aD (sI μ p0 0 0) 9 14) p0 1 (some q2)) 9 14) p0 2 (some q8))).length → (((gD (aD (sR (aD (sR (aD (sI μ p0 0 0) 9 14) p0 1 (some q2)) 9 14) p0 2 (some q8)) 9 14))[p0]? = some (3, 0)) ∧ ((S.1 p0 3 = none ∨ S.1 p0 3 = some q14) ∧ (((((0 + 1) + 1) + 1) + 1 ≤ 6) ∧ (((((0 + 14) + 14) + 14) + 14 ≤ 448) ∧ (∀ q20 : Nat, q20 = (gD (sR (aD (sR (aD (sR (aD (sI μ p0 0 0) 9 14) p0 1 (some q2)) 9 14) p0 2 (some q8)) 9 14) p0 3 (some q14))).length → (((gD (aD (sR (aD (sR (aD (sR (aD (sI μ p0 0 0) 9 14) p0 1 (some q2)) 9 14) p0 2 (some q8)) 9 14) p0 3 (some q14)) 9 14))[p0]? = some (3, 0)) ∧ ((S.1 p0 4 = none ∨ S.1 p0 4 = some q20) ∧ ((((((0 + 1) + 1) + 1) + 1) + 1 ≤ 6) ∧ ((((((0 + 14) + 14) + 14) + 14) + 196 ≤ 448) ∧ (∀ q26 : Nat, q26 = (gD (sR (aD (sR (aD (sR (aD (sR (aD (sI μ p0 0 0) 9 14) p0 1 (some q2)) 9 14) p0 2 (some q8)) 9 14) p0 3 (some q14)) 9 14) p0 4 (some q20))).length → (((gD (aD (sR (aD (sR (aD (sR (aD (sR (aD (sI μ p0 0 0) 9 14) p0 1 (some q2)) 9 14) p0 2 (some q8)) 9 14) p0 3 (some q14)) 9 14) p0 4 (some q20)) 9 196))[p0]? = some (3, 0)) ∧ ((S.1 p0 5 = none ∨ S.1 p0 5 = some q26) ∧ (((((((0 + 1) + 1) + 1) + 1) + 1) + 1 ≤ 6) ∧ (((((((0 + 14) + 14) + 14) + 14) + 196) + 196 ≤ 448) ∧ (∀ q32 : Nat, q32 = (gD (sR (aD (sR (aD (sR (aD (sR (aD (sR (aD (sI μ p0 0 0) 9 14) p0 1 (some q2)) 9 14) p0 2 (some q8)) 9 14) p0 3 (some q14)) 9 14) p0 4 (some q20)) 9 196) p0 5 (some q26))).length → (((gD (aD (sR (aD (sR (aD (sR (aD (sR (aD (sR (aD (sI μ p0 0 0) 9 14) p0 1 (some q2)) 9 14) p0 2 (some q8)) 9 14) p0 3 (some q14)) 9 14) p0 4 (some q20)) 9 196) p0 5 (some q26)) 9 196))[p0]? = some (3, 0)) ∧ ((S.1 p0 6 = none ∨ S.1 p0 6 = some q32) ∧ ((((((((0 + 1) + 1) + 1) + 1) + 1) + 1) ≤ 6) ∧ ((((((((0 + 14) + 14) + 14) + 14) + 196) + 196) ≤ 448) ∧ (Q (sR (aD (sR (aD (sR (aD (sR (aD (sR (aD (sR (aD (sI μ p0 0 0) 9 14) p0 1 (some q2)) 9 14) p0 2 (some q8)) 9 14) p0 3 (some q14)) 9 14) p0 4 (some q20)) 9 196) p0 5 (some q26)) 9 196) p0 6 (some q32)))))))))))))))))))))))))))))))))))) : kX3_init S (d + 1) p0 μ Q := by
  refine Cl_of rfl (Nat.le_of_ble_eq_true rfl) rfl ?_
  show Z S none mX3_init (d + 1) 6 448 (qV Q) 0 [some (.ref p0)] [] μ 0 0
  refine Z_aload_n (pc' := 1) dX3_init_0 rfl rfl ?_
  refine Z_objInit (pc' := 4) dX3_init_1 rfl lX3_3 l_oi l_oc (Nat.le_of_ble_eq_true rfl) ?_
  refine Z_aload_n (pc' := 5) dX3_init_4 rfl rfl ?_
  refine Z_iconst (pc' := 6) dX3_init_5 rfl ?_
  have h1 := P.1
  have P := P.2
  refine Z_putI' (ji := 0) (pc' := 9) dX3_init_6 rfl rfl fX3_9 (Or.inl rfl) rfl (Or.inr h1) ?_
  refine Z_aload_n (pc' := 10) dX3_init_9 rfl rfl ?_
  refine Z_bipush (pc' := 12) dX3_init_10 rfl rfl ?_
  obtain ⟨q2, h3⟩ : ∃ q : Nat, q = (gD (sI μ p0 0 0)).length := ⟨_, rfl⟩
  have h4 := P.1
  have P := P.2
  have h5 := P.1
  have P := P.2
  refine Z_newI (pc' := 14) dX3_init_12 rfl (by decide) (by decide) h4 h5 l_ai ?_
  show Z S none mX3_init (d + 1) 6 448 (qV Q) 14 _ _ (aD (sI μ p0 0 0) 9 14) (0 + 1) (0 + 14)
  rw [← h3]
  have P := P q2 h3
  have h6 := P.1
  have P := P.2
  have h7 := P.1
  have P := P.2
  refine Z_putR' (ji := 1) (pc' := 17) dX3_init_14 rfl rfl fX3_15 (Or.inr ⟨rfl, rfl⟩) rfl (Or.inr h6) h7 ?_
  refine Z_aload_n (pc' := 18) dX3_init_17 rfl rfl ?_
  refine Z_bipush (pc' := 20) dX3_init_18 rfl rfl ?_
  obtain ⟨q8, h9⟩ : ∃ q : Nat, q = (gD (sR (aD (sI μ p0 0 0) 9 14) p0 1 (some q2))).length := ⟨_, rfl⟩
  have h10 := P.1
  have P := P.2
  have h11 := P.1
  have P := P.2
  refine Z_newI (pc' := 22) dX3_init_20 rfl (by decide) (by decide) h10 h11 l_ai ?_
  show Z S none mX3_init (d + 1) 6 448 (qV Q) 22 _ _ (aD (sR (aD (sI μ p0 0 0) 9 14) p0 1 (some q2)) 9 14) ((0 + 1) + 1) ((0 + 14) + 14)
  rw [← h9]
  have P := P q8 h9
  have h12 := P.1
  have P := P.2
  have h13 := P.1
  have P := P.2
  refine Z_putR' (ji := 2) (pc' := 25) dX3_init_22 rfl rfl fX3_19 (Or.inr ⟨rfl, rfl⟩) rfl (Or.inr h12) h13 ?_
  refine Z_aload_n (pc' := 26) dX3_init_25 rfl rfl ?_
  refine Z_bipush (pc' := 28) dX3_init_26 rfl rfl ?_
  obtain ⟨q14, h15⟩ : ∃ q : Nat, q = (gD (sR (aD (sR (aD (sI μ p0 0 0) 9 14) p0 1 (some q2)) 9 14) p0 2 (some q8))).length := ⟨_, rfl⟩
  have h16 := P.1
  have P := P.2
  have h17 := P.1
  have P := P.2
  refine Z_newI (pc' := 30) dX3_init_28 rfl (by decide) (by decide) h16 h17 l_ai ?_
  show Z S none mX3_init (d + 1) 6 448 (qV Q) 30 _ _ (aD (sR (aD (sR (aD (sI μ p0 0 0) 9 14) p0 1 (some q2)) 9 14) p0 2 (some q8)) 9 14) (((0 + 1) + 1) + 1) (((0 + 14) + 14) + 14)
  rw [← h15]
  have P := P q14 h15
  have h18 := P.1
  have P := P.2
  have h19 := P.1
  have P := P.2
  refine Z_putR' (ji := 3) (pc' := 33) dX3_init_30 rfl rfl fX3_22 (Or.inr ⟨rfl, rfl⟩) rfl (Or.inr h18) h19 ?_
  refine Z_aload_n (pc' := 34) dX3_init_33 rfl rfl ?_
  refine Z_bipush (pc' := 36) dX3_init_34 rfl rfl ?_
  obtain ⟨q20, h21⟩ : ∃ q : Nat, q = (gD (sR (aD (sR (aD (sR (aD (sI μ p0 0 0) 9 14) p0 1 (some q2)) 9 14) p0 2 (some q8)) 9 14) p0 3 (some q14))).length := ⟨_, rfl⟩
  have h22 := P.1
  have P := P.2
  have h23 := P.1
  have P := P.2
  refine Z_newI (pc' := 38) dX3_init_36 rfl (by decide) (by decide) h22 h23 l_ai ?_
  show Z S none mX3_init (d + 1) 6 448 (qV Q) 38 _ _ (aD (sR (aD (sR (aD (sR (aD (sI μ p0 0 0) 9 14) p0 1 (some q2)) 9 14) p0 2 (some q8)) 9 14) p0 3 (some q14)) 9 14) ((((0 + 1) + 1) + 1) + 1) ((((0 + 14) + 14) + 14) + 14)
  rw [← h21]
  have P := P q20 h21
  have h24 := P.1
  have P := P.2
  have h25 := P.1
  have P := P.2
  refine Z_putR' (ji := 4) (pc' := 41) dX3_init_38 rfl rfl fX3_25 (Or.inr ⟨rfl, rfl⟩) rfl (Or.inr h24) h25 ?_
  refine Z_aload_n (pc' := 42) dX3_init_41 rfl rfl ?_
  refine Z_sipush (pc' := 45) dX3_init_42 rfl rfl ?_
  obtain ⟨q26, h27⟩ : ∃ q : Nat, q = (gD (sR (aD (sR (aD (sR (aD (sR (aD (sI μ p0 0 0) 9 14) p0 1 (some q2)) 9 14) p0 2 (some q8)) 9 14) p0 3 (some q14)) 9 14) p0 4 (some q20))).length := ⟨_, rfl⟩
  have h28 := P.1
  have P := P.2
  have h29 := P.1
  have P := P.2
  refine Z_newI (pc' := 47) dX3_init_45 rfl (by decide) (by decide) h28 h29 l_ai ?_
  show Z S none mX3_init (d + 1) 6 448 (qV Q) 47 _ _ (aD (sR (aD (sR (aD (sR (aD (sR (aD (sI μ p0 0 0) 9 14) p0 1 (some q2)) 9 14) p0 2 (some q8)) 9 14) p0 3 (some q14)) 9 14) p0 4 (some q20)) 9 196) (((((0 + 1) + 1) + 1) + 1) + 1) (((((0 + 14) + 14) + 14) + 14) + 196)
  rw [← h27]
  have P := P q26 h27
  have h30 := P.1
  have P := P.2
  have h31 := P.1
  have P := P.2
  refine Z_putR' (ji := 5) (pc' := 50) dX3_init_47 rfl rfl fX3_28 (Or.inr ⟨rfl, rfl⟩) rfl (Or.inr h30) h31 ?_
  refine Z_aload_n (pc' := 51) dX3_init_50 rfl rfl ?_
  refine Z_sipush (pc' := 54) dX3_init_51 rfl rfl ?_
  obtain ⟨q32, h33⟩ : ∃ q : Nat, q = (gD (sR (aD (sR (aD (sR (aD (sR (aD (sR (aD (sI μ p0 0 0) 9 14) p0 1 (some q2)) 9 14) p0 2 (some q8)) 9 14) p0 3 (some q14)) 9 14) p0 4 (some q20)) 9 196) p0 5 (some q26))).length := ⟨_, rfl⟩
  have h34 := P.1
  have P := P.2
  have h35 := P.1
  have P := P.2
  refine Z_newI (pc' := 56) dX3_init_54 rfl (by decide) (by decide) h34 h35 l_ai ?_
  show Z S none mX3_init (d + 1) 6 448 (qV Q) 56 _ _ (aD (sR (aD (sR (aD (sR (aD (sR (aD (sR (aD (sI μ p0 0 0) 9 14) p0 1 (some q2)) 9 14) p0 2 (some q8)) 9 14) p0 3 (some q14)) 9 14) p0 4 (some q20)) 9 196) p0 5 (some q26)) 9 196) ((((((0 + 1) + 1) + 1) + 1) + 1) + 1) ((((((0 + 14) + 14) + 14) + 14) + 196) + 196)
  rw [← h33]
  have P := P q32 h33
  have h36 := P.1
  have P := P.2
  have h37 := P.1
  have P := P.2
  refine Z_putR' (ji := 6) (pc' := 59) dX3_init_56 rfl rfl fX3_31 (Or.inr ⟨rfl, rfl⟩) rfl (Or.inr h36) h37 ?_
  have h38 := P.1
  have P := P.2
  have h39 := P.1
  have P := P.2
  exact Z_return dX3_init_59 rfl h38 h39 P
theorem bX5_partOfWord {d : Nat} {Q : Int → zMem → Prop} {μ : zMem} {x1 : Int} {x2 : Int} (P : (0 ≤ ((x1 * 3) + x2)) ∧ ((((x1 * 3) + x2) < 42) ∧ (Q (gI μ 5 ((x1 * 3) + x2)) μ))) : kX5_partOfWord d x1 x2 μ Q := by
  refine Cl_of rfl (Nat.le_of_ble_eq_true rfl) rfl ?_
  show Z SS none mX5_partOfWord d 0 0 (qI Q) 0 [some (.ref 1), some (vi x1), some (vi x2)] [] μ 0 0
  refine Z_aload_n (pc' := 1) dX5_partOfWord_0 rfl rfl ?_
  refine Z_getR (q := 5) (pc' := 4) dX5_partOfWord_1 rfl fX5_22 rfl (Or.inl dd_1) (Or.inl rr_1_2) ?_
  refine Z_iload_n (pc' := 5) dX5_partOfWord_4 rfl rfl ?_
  refine Z_iconst (pc' := 6) dX5_partOfWord_5 rfl ?_
  refine Z_imul (pc' := 7) dX5_partOfWord_6 rfl ?_
  refine Z_iload_n (pc' := 8) dX5_partOfWord_7 rfl rfl ?_
  refine Z_iadd (pc' := 9) dX5_partOfWord_8 rfl ?_
  have h1 := P.1
  have P := P.2
  have h2 := P.1
  have P := P.2
  refine Z_iaload (pc' := 10) dX5_partOfWord_9 rfl (Or.inl dd_5) (Nat.le_of_ble_eq_true rfl) h1 h2 ?_
  exact Z_ireturn dX5_partOfWord_10 rfl (Nat.le_refl 0) (Nat.le_refl 0) P
abbrev zX3_findLastEnds_12 (d : Nat) (Q : zMem → Prop) (x2 : Int) (x3 : Int) (μ : zMem) : Prop := Z SS none mX3_findLastEnds (d + 1) 0 0 (qV Q) 12 [some (.ref 16), some (.ref 1), some (vi x2), some (vi x3)] [] μ 0 0
theorem bX3_findLastEnds {d : Nat} {Q : zMem → Prop} {μ : zMem}  (P : zX3_findLastEnds_12 d Q (gI μ 16 0) ((gI μ 16 0) - 1) μ) : kX3_findLastEnds (d + 1) μ Q := by
  refine Cl_of rfl (Nat.le_of_ble_eq_true rfl) rfl ?_
  show Z SS none mX3_findLastEnds (d + 1) 0 0 (qV Q) 0 [some (.ref 16), some (.ref 1), none, none] [] μ 0 0
  refine Z_aload_n (pc' := 1) dX3_findLastEnds_0 rfl rfl ?_
  refine Z_getI' (ji := 0) (pc' := 4) dX3_findLastEnds_1 rfl rfl fX3_9 rfl (Or.inl dd_16) ?_
  refine Z_istore_n (pc' := 5) (lo' := [some (.ref 16), some (.ref 1), some (vi (gI μ 16 0)), none]) dX3_findLastEnds_4 rfl (by decide) rfl ?_
  refine Z_aload_n (pc' := 6) dX3_findLastEnds_5 rfl rfl ?_
  refine Z_getI' (ji := 0) (pc' := 9) dX3_findLastEnds_6 rfl rfl fX3_9 rfl (Or.inl dd_16) ?_
  refine Z_iconst (pc' := 10) dX3_findLastEnds_9 rfl ?_
  refine Z_isub (pc' := 11) dX3_findLastEnds_10 rfl ?_
  refine Z_istore_n (pc' := 12) (lo' := [some (.ref 16), some (.ref 1), some (vi (gI μ 16 0)), some (vi ((gI μ 16 0) - 1))]) dX3_findLastEnds_11 rfl (by decide) rfl ?_
  exact P
theorem bX3_findLastEnds_12 {d : Nat} {Q : zMem → Prop} {μ : zMem} {x2 : Int} {x3 : Int} (P : (zIn x3) ∧ ((x3 < 0 → (Q μ)) ∧ (¬ (x3 < 0) → ((0 ≤ x3) ∧ ((x3 < 14) ∧ (kX5_partOfWord d x3 2 (sI μ 20 x3 x2) (fun (r6 : Int) (μ5 : zMem) => ((zIn r6)) ∧ (zX3_findLastEnds_12 d Q (if r6 = 0 then x2 else x3) (x3 + (-1)) μ5)))))))) : zX3_findLastEnds_12 d Q x2 x3 μ := by
  refine Z_iload_n (pc' := 13) dX3_findLastEnds_12 rfl rfl ?_
  have h1 := P.1
  have P := P.2
  refine Z_if_lt (tgt := 40) (pc' := 16) dX3_findLastEnds_13 (by decide) rfl h1 (fun c2 => ?_) (fun c2 => ?_)
  · have P := P.1 c2
    exact Z_return dX3_findLastEnds_40 rfl (Nat.le_refl 0) (Nat.le_refl 0) P
  · have P := P.2 c2
    refine Z_aload_n (pc' := 17) dX3_findLastEnds_16 rfl rfl ?_
    refine Z_getR (q := 20) (pc' := 20) dX3_findLastEnds_17 rfl fX3_25 rfl (Or.inl dd_16) (Or.inl rr_16_4) ?_
    refine Z_iload_n (pc' := 21) dX3_findLastEnds_20 rfl rfl ?_
    refine Z_iload_n (pc' := 22) dX3_findLastEnds_21 rfl rfl ?_
    have h3 := P.1
    have P := P.2
    have h4 := P.1
    have P := P.2
    refine Z_iastore (pc' := 23) dX3_findLastEnds_22 rfl (Or.inl dd_20) (Nat.le_of_ble_eq_true rfl) h3 h4 ?_
    refine Z_aload_n (pc' := 24) dX3_findLastEnds_23 rfl rfl ?_
    refine Z_iload_n (pc' := 25) dX3_findLastEnds_24 rfl rfl ?_
    refine Z_iconst (pc' := 26) dX3_findLastEnds_25 rfl ?_
    refine Z_callV0 (M' := mX5_partOfWord) (pc' := 29) (st := []) [vi x3, vi 2] dX3_findLastEnds_26 rfl vX5_partOfWord lX3_37 (Or.inl dd_1) rfl (Nat.le_of_ble_eq_true rfl) (Nat.le_refl 0) (Nat.le_refl 0) ?_
    refine Cl_mono P ?_
    rintro _ μ5 ⟨r6, rfl, P⟩
    show Z SS none mX3_findLastEnds (d + 1) 0 0 (qV Q) 29 [some (.ref 16), some (.ref 1), some (vi x2), some (vi x3)] [vi r6] μ5 0 0
    have K : ∀ t9 : Int, t9 = (if r6 = 0 then x2 else x3) → Z SS none mX3_findLastEnds (d + 1) 0 0 (qV Q) 34 [some (.ref 16), some (.ref 1), some (vi t9), some (vi x3)] [] μ5 0 0 := by
      rintro _ rfl
      have P := P.2
      refine Z_iinc (pc' := 37) (lo' := [some (.ref 16), some (.ref 1), some (vi (if r6 = 0 then x2 else x3)), some (vi (x3 + (-1)))]) dX3_findLastEnds_34 rfl (by decide) rfl rfl ?_
      refine Z_goto (tgt := 12) dX3_findLastEnds_37 (by decide) ?_
      exact P
    have G := P.1
    have h7 := G
    refine Z_if_eq (tgt := 34) (pc' := 32) dX3_findLastEnds_29 (by decide) rfl h7 (fun c8 => ?_) (fun c8 => ?_)
    · exact K _ (by rw [if_pos c8])
    · refine Z_iload_n (pc' := 33) dX3_findLastEnds_32 rfl rfl ?_
      refine Z_istore_n (pc' := 34) (lo' := [some (.ref 16), some (.ref 1), some (vi x3), some (vi x3)]) dX3_findLastEnds_33 rfl (by decide) rfl ?_
      exact K _ (by rw [if_neg c8])
abbrev zX3_measureLines_2 (d : Nat) (Q : zMem → Prop) (x1 : Int) (μ : zMem) : Prop := Z SS none mX3_measureLines (d + 1) 0 0 (qV Q) 2 [some (.ref 16), some (vi x1), none, none, none] [] μ 0 0
abbrev zX3_measureLines_27 (d : Nat) (Q : zMem → Prop) (x1 : Int) (x2 : Int) (x3 : Int) (x4 : Int) (μ : zMem) : Prop := Z SS none mX3_measureLines (d + 1) 0 0 (qV Q) 27 [some (.ref 16), some (vi x1), some (vi x2), some (vi x3), some (vi x4)] [] μ 0 0
theorem bX3_measureLines {d : Nat} {Q : zMem → Prop} {μ : zMem}  (P : zX3_measureLines_2 d Q 0 μ) : kX3_measureLines (d + 1) μ Q := by
  refine Cl_of rfl (Nat.le_of_ble_eq_true rfl) rfl ?_
  show Z SS none mX3_measureLines (d + 1) 0 0 (qV Q) 0 [some (.ref 16), none, none, none, none] [] μ 0 0
  refine Z_iconst (pc' := 1) dX3_measureLines_0 rfl ?_
  refine Z_istore_n (pc' := 2) (lo' := [some (.ref 16), some (vi 0), none, none, none]) dX3_measureLines_1 rfl (by decide) rfl ?_
  exact P
theorem bX3_measureLines_2 {d : Nat} {Q : zMem → Prop} {μ : zMem} {x1 : Int} (P : (zIn x1) ∧ ((zIn (gI μ 16 0)) ∧ (((gI μ 16 0) ≤ x1 → (Q μ)) ∧ (¬ ((gI μ 16 0) ≤ x1) → ((0 ≤ x1) ∧ ((x1 < 14) ∧ (zX3_measureLines_27 d Q x1 (gI μ 18 x1) (gI μ 17 x1) x1 μ))))))) : zX3_measureLines_2 d Q x1 μ := by
  refine Z_iload_n (pc' := 3) dX3_measureLines_2 rfl rfl ?_
  refine Z_aload_n (pc' := 4) dX3_measureLines_3 rfl rfl ?_
  refine Z_getI' (ji := 0) (pc' := 7) dX3_measureLines_4 rfl rfl fX3_9 rfl (Or.inl dd_16) ?_
  have h1 := P.1
  have P := P.2
  have h2 := P.1
  have P := P.2
  refine Z_icmp_ge (tgt := 110) (pc' := 10) dX3_measureLines_7 (by decide) rfl h1 h2 (fun c3 => ?_) (fun c3 => ?_)
  · have P := P.1 c3
    exact Z_return dX3_measureLines_110 rfl (Nat.le_refl 0) (Nat.le_refl 0) P
  · have P := P.2 c3
    refine Z_aload_n (pc' := 11) dX3_measureLines_10 rfl rfl ?_
    refine Z_getR (q := 18) (pc' := 14) dX3_measureLines_11 rfl fX3_19 rfl (Or.inl dd_16) (Or.inl rr_16_2) ?_
    refine Z_iload_n (pc' := 15) dX3_measureLines_14 rfl rfl ?_
    have h4 := P.1
    have P := P.2
    have h5 := P.1
    have P := P.2
    refine Z_iaload (pc' := 16) dX3_measureLines_15 rfl (Or.inl dd_18) (Nat.le_of_ble_eq_true rfl) h4 h5 ?_
    refine Z_istore_n (pc' := 17) (lo' := [some (.ref 16), some (vi x1), some (vi (gI μ 18 x1)), none, none]) dX3_measureLines_16 rfl (by decide) rfl ?_
    refine Z_aload_n (pc' := 18) dX3_measureLines_17 rfl rfl ?_
    refine Z_getR (q := 17) (pc' := 21) dX3_measureLines_18 rfl fX3_15 rfl (Or.inl dd_16) (Or.inl rr_16_1) ?_
    refine Z_iload_n (pc' := 22) dX3_measureLines_21 rfl rfl ?_
    refine Z_iaload (pc' := 23) dX3_measureLines_22 rfl (Or.inl dd_17) (Nat.le_of_ble_eq_true rfl) h4 h5 ?_
    refine Z_istore_n (pc' := 24) (lo' := [some (.ref 16), some (vi x1), some (vi (gI μ 18 x1)), some (vi (gI μ 17 x1)), none]) dX3_measureLines_23 rfl (by decide) rfl ?_
    refine Z_iload_n (pc' := 25) dX3_measureLines_24 rfl rfl ?_
    refine Z_istore (pc' := 27) (lo' := [some (.ref 16), some (vi x1), some (vi (gI μ 18 x1)), some (vi (gI μ 17 x1)), some (vi x1)]) dX3_measureLines_25 rfl (by decide) rfl ?_
    exact P
theorem bX3_measureLines_27 {d : Nat} {Q : zMem → Prop} {μ : zMem} {x1 : Int} {x2 : Int} {x3 : Int} {x4 : Int} (P : (zIn x4) ∧ ((zIn (gI μ 16 0)) ∧ (((gI μ 16 0) ≤ x4 → (zX3_measureLines_2 d Q (x1 + 1) μ)) ∧ (¬ ((gI μ 16 0) ≤ x4) → (((zIn x1) ∧ ((x4 ≤ x1 → True) ∧ (¬ (x4 ≤ x1) → ((0 ≤ x4) ∧ ((x4 < 14) ∧ ((zIn x3) ∧ ((zIn (gI μ 17 x4))))))))) ∧ ((0 ≤ ((x1 * 14) + x4)) ∧ ((((x1 * 14) + x4) < 196) ∧ (zX3_measureLines_27 d Q x1 (if x4 ≤ x1 then x2 else (x2 + ((gI μ 19 x4) + (gI μ 18 x4)))) (if x4 ≤ x1 then x3 else (if x3 < (gI μ 17 x4) then (gI μ 17 x4) else x3)) (x4 + 1) (sI (sI μ 21 ((x1 * 14) + x4) (if x4 ≤ x1 then x2 else (x2 + ((gI μ 19 x4) + (gI μ 18 x4))))) 22 ((x1 * 14) + x4) (if x4 ≤ x1 then x3 else (if x3 < (gI μ 17 x4) then (gI μ 17 x4) else x3))))))))))) : zX3_measureLines_27 d Q x1 x2 x3 x4 μ := by
  refine Z_iload (pc' := 29) dX3_measureLines_27 rfl rfl ?_
  refine Z_aload_n (pc' := 30) dX3_measureLines_29 rfl rfl ?_
  refine Z_getI' (ji := 0) (pc' := 33) dX3_measureLines_30 rfl rfl fX3_9 rfl (Or.inl dd_16) ?_
  have h1 := P.1
  have P := P.2
  have h2 := P.1
  have P := P.2
  refine Z_icmp_ge (tgt := 104) (pc' := 36) dX3_measureLines_33 (by decide) rfl h1 h2 (fun c3 => ?_) (fun c3 => ?_)
  · have P := P.1 c3
    refine Z_iinc (pc' := 107) (lo' := [some (.ref 16), some (vi (x1 + 1)), some (vi x2), some (vi x3), some (vi x4)]) dX3_measureLines_104 rfl (by decide) rfl rfl ?_
    refine Z_goto (tgt := 2) dX3_measureLines_107 (by decide) ?_
    refine Z_wk [true, true, false, false, false] rfl ?_
    exact P
  · have P := P.2 c3
    refine Z_iload (pc' := 38) dX3_measureLines_36 rfl rfl ?_
    refine Z_iload_n (pc' := 39) dX3_measureLines_38 rfl rfl ?_
    have K : ∀ t10 : Int, t10 = (if x4 ≤ x1 then x2 else (x2 + ((gI μ 19 x4) + (gI μ 18 x4)))) → ∀ t11 : Int, t11 = (if x4 ≤ x1 then x3 else (if x3 < (gI μ 17 x4) then (gI μ 17 x4) else x3)) → Z SS none mX3_measureLines (d + 1) 0 0 (qV Q) 72 [some (.ref 16), some (vi x1), some (vi t10), some (vi t11), some (vi x4)] [] μ 0 0 := by
      rintro _ rfl _ rfl
      have P := P.2
      refine Z_aload_n (pc' := 73) dX3_measureLines_72 rfl rfl ?_
      refine Z_getR (q := 21) (pc' := 76) dX3_measureLines_73 rfl fX3_28 rfl (Or.inl dd_16) (Or.inl rr_16_5) ?_
      refine Z_iload_n (pc' := 77) dX3_measureLines_76 rfl rfl ?_
      refine Z_bipush (pc' := 79) dX3_measureLines_77 rfl rfl ?_
      refine Z_imul (pc' := 80) dX3_measureLines_79 rfl ?_
      refine Z_iload (pc' := 82) dX3_measureLines_80 rfl rfl ?_
      refine Z_iadd (pc' := 83) dX3_measureLines_82 rfl ?_
      refine Z_iload_n (pc' := 84) dX3_measureLines_83 rfl rfl ?_
      have h12 := P.1
      have P := P.2
      have h13 := P.1
      have P := P.2
      refine Z_iastore (pc' := 85) dX3_measureLines_84 rfl (Or.inl dd_21) (Nat.le_of_ble_eq_true rfl) h12 h13 ?_
      refine Z_aload_n (pc' := 86) dX3_measureLines_85 rfl rfl ?_
      refine Z_getR (q := 22) (pc' := 89) dX3_measureLines_86 rfl fX3_31 rfl (Or.inl dd_16) (Or.inl rr_16_6) ?_
      refine Z_iload_n (pc' := 90) dX3_measureLines_89 rfl rfl ?_
      refine Z_bipush (pc' := 92) dX3_measureLines_90 rfl rfl ?_
      refine Z_imul (pc' := 93) dX3_measureLines_92 rfl ?_
      refine Z_iload (pc' := 95) dX3_measureLines_93 rfl rfl ?_
      refine Z_iadd (pc' := 96) dX3_measureLines_95 rfl ?_
      refine Z_iload_n (pc' := 97) dX3_measureLines_96 rfl rfl ?_
      refine Z_iastore (pc' := 98) dX3_measureLines_97 rfl (Or.inl dd_22) (Nat.le_of_ble_eq_true rfl) h12 h13 ?_
      refine Z_iinc (pc' := 101) (lo' := [some (.ref 16), some (vi x1), some (vi (if x4 ≤ x1 then x2 else (x2 + ((gI μ 19 x4) + (gI μ 18 x4))))), some (vi (if x4 ≤ x1 then x3 else (if x3 < (gI μ 17 x4) then (gI μ 17 x4) else x3))), some (vi (x4 + 1))]) dX3_measureLines_98 rfl (by decide) rfl rfl ?_
      refine Z_goto (tgt := 27) dX3_measureLines_101 (by decide) ?_
      exact P
    have G := P.1
    have h4 := G.1
    have G := G.2
    refine Z_icmp_le (tgt := 72) (pc' := 42) dX3_measureLines_39 (by decide) rfl h1 h4 (fun c5 => ?_) (fun c5 => ?_)
    · exact K _ (by rw [if_pos c5]) _ (by rw [if_pos c5])
    · have G := G.2 c5
      refine Z_iload_n (pc' := 43) dX3_measureLines_42 rfl rfl ?_
      refine Z_aload_n (pc' := 44) dX3_measureLines_43 rfl rfl ?_
      refine Z_getR (q := 19) (pc' := 47) dX3_measureLines_44 rfl fX3_22 rfl (Or.inl dd_16) (Or.inl rr_16_3) ?_
      refine Z_iload (pc' := 49) dX3_measureLines_47 rfl rfl ?_
      have h6 := G.1
      have G := G.2
      have h7 := G.1
      have G := G.2
      refine Z_iaload (pc' := 50) dX3_measureLines_49 rfl (Or.inl dd_19) (Nat.le_of_ble_eq_true rfl) h6 h7 ?_
      refine Z_aload_n (pc' := 51) dX3_measureLines_50 rfl rfl ?_
      refine Z_getR (q := 18) (pc' := 54) dX3_measureLines_51 rfl fX3_19 rfl (Or.inl dd_16) (Or.inl rr_16_2) ?_
      refine Z_iload (pc' := 56) dX3_measureLines_54 rfl rfl ?_
      refine Z_iaload (pc' := 57) dX3_measureLines_56 rfl (Or.inl dd_18) (Nat.le_of_ble_eq_true rfl) h6 h7 ?_
      refine Z_iadd (pc' := 58) dX3_measureLines_57 rfl ?_
      refine Z_iadd (pc' := 59) dX3_measureLines_58 rfl ?_
      refine Z_istore_n (pc' := 60) (lo' := [some (.ref 16), some (vi x1), some (vi (x2 + ((gI μ 19 x4) + (gI μ 18 x4)))), some (vi x3), some (vi x4)]) dX3_measureLines_59 rfl (by decide) rfl ?_
      refine Z_iload_n (pc' := 61) dX3_measureLines_60 rfl rfl ?_
      refine Z_aload_n (pc' := 62) dX3_measureLines_61 rfl rfl ?_
      refine Z_getR (q := 17) (pc' := 65) dX3_measureLines_62 rfl fX3_15 rfl (Or.inl dd_16) (Or.inl rr_16_1) ?_
      refine Z_iload (pc' := 67) dX3_measureLines_65 rfl rfl ?_
      refine Z_iaload (pc' := 68) dX3_measureLines_67 rfl (Or.inl dd_17) (Nat.le_of_ble_eq_true rfl) h6 h7 ?_
      have h8 := G.1
      have G := G.2
      have h9 := G
      refine Z_max (pc' := 71) dX3_measureLines_68 rfl lX3_56 h8 h9 (Nat.le_refl 0) (Nat.le_refl 0) (Nat.le_of_ble_eq_true rfl) ?_
      refine Z_istore_n (pc' := 72) (lo' := [some (.ref 16), some (vi x1), some (vi (x2 + ((gI μ 19 x4) + (gI μ 18 x4)))), some (vi (if x3 < (gI μ 17 x4) then (gI μ 17 x4) else x3)), some (vi x4)]) dX3_measureLines_71 rfl (by decide) rfl ?_
      exact K _ (by rw [if_neg c5]) _ (by rw [if_neg c5])
abbrev zX3_measure_11 (d : Nat) (Q : Int → zMem → Prop) (x2 : Int) (x3 : Int) (x4 : Int) (μ : zMem) : Prop := Z SS none mX3_measure (d + 1) 0 0 (qI Q) 11 [some (.ref 16), some (.ref 1), some (vi x2), some (vi x3), some (vi x4), none] [] μ 0 0
theorem bX3_measure {d : Nat} {Q : Int → zMem → Prop} {μ : zMem} {x2 : Int} {x3 : Int} (P : zX3_measure_11 d Q x2 x3 0 (sI μ 16 0 (gI μ 1 1))) : kX3_measure (d + 1) x2 x3 μ Q := by
  refine Cl_of rfl (Nat.le_of_ble_eq_true rfl) rfl ?_
  show Z SS none mX3_measure (d + 1) 0 0 (qI Q) 0 [some (.ref 16), some (.ref 1), some (vi x2), some (vi x3), none, none] [] μ 0 0
  refine Z_aload_n (pc' := 1) dX3_measure_0 rfl rfl ?_
  refine Z_aload_n (pc' := 2) dX3_measure_1 rfl rfl ?_
  refine Z_getI' (ji := 1) (pc' := 5) dX3_measure_2 rfl rfl fX3_34 rfl (Or.inl dd_1) ?_
  refine Z_putI' (ji := 0) (pc' := 8) dX3_measure_5 rfl rfl fX3_9 (Or.inl rfl) rfl (Or.inl dd_16) ?_
  refine Z_iconst (pc' := 9) dX3_measure_8 rfl ?_
  refine Z_istore (pc' := 11) (lo' := [some (.ref 16), some (.ref 1), some (vi x2), some (vi x3), some (vi 0), none]) dX3_measure_9 rfl (by decide) rfl ?_
  exact P
theorem bX3_measure_11 {d : Nat} {Q : Int → zMem → Prop} {μ : zMem} {x2 : Int} {x3 : Int} {x4 : Int} (P : (zIn x4) ∧ ((zIn (gI μ 16 0)) ∧ (((gI μ 16 0) ≤ x4 → (kX3_findLastEnds d μ (fun μ4 : zMem => kX3_measureLines d μ4 (fun μ5 : zMem => ((zIn (gI μ5 16 0))) ∧ (Q (if (gI μ5 16 0) ≤ 0 then 0 else 1) μ5))))) ∧ (¬ ((gI μ 16 0) ≤ x4) → (kX5_partOfWord d x4 1 μ (fun (r10 : Int) (μ9 : zMem) => (0 ≤ x4) ∧ ((x4 < 14) ∧ ((0 ≤ (0 + r10)) ∧ (((0 + r10) < 8) ∧ ((zIn (gI (sI μ9 17 x4 (x2 + ((r10 - 1) * x3))) 17 x4)) ∧ ((zIn (gI (sI μ9 17 x4 (x2 + ((r10 - 1) * x3))) 6 (0 + r10))) ∧ (((gI (sI μ9 17 x4 (x2 + ((r10 - 1) * x3))) 6 (0 + r10)) ≤ (gI (sI μ9 17 x4 (x2 + ((r10 - 1) * x3))) 17 x4) → (kX5_partOfWord d x4 0 (sI μ9 17 x4 (x2 + ((r10 - 1) * x3))) (fun (r19 : Int) (μ18 : zMem) => ((x4 = 0 → True) ∧ (¬ (x4 = 0) → ((0 ≤ (x4 - 1)) ∧ (((x4 - 1) < 14) ∧ ((zIn (gI (sI μ18 18 x4 (r19 * (gI μ18 17 x4))) 17 (x4 - 1))) ∧ ((zIn (gI (sI μ18 18 x4 (r19 * (gI μ18 17 x4))) 17 x4)))))))) ∧ (zX3_measure_11 d Q x2 x3 (x4 + 1) (sI (sI μ18 18 x4 (r19 * (gI μ18 17 x4))) 19 x4 (if x4 = 0 then 0 else (if (gI (sI μ18 18 x4 (r19 * (gI μ18 17 x4))) 17 x4) < (gI (sI μ18 18 x4 (r19 * (gI μ18 17 x4))) 17 (x4 - 1)) then (gI (sI μ18 18 x4 (r19 * (gI μ18 17 x4))) 17 x4) else (gI (sI μ18 18 x4 (r19 * (gI μ18 17 x4))) 17 (x4 - 1))))))))) ∧ (¬ ((gI (sI μ9 17 x4 (x2 + ((r10 - 1) * x3))) 6 (0 + r10)) ≤ (gI (sI μ9 17 x4 (x2 + ((r10 - 1) * x3))) 17 x4)) → (Q 0 (sI μ9 17 x4 (x2 + ((r10 - 1) * x3))))))))))))))))) : zX3_measure_11 d Q x2 x3 x4 μ := by
  refine Z_iload (pc' := 13) dX3_measure_11 rfl rfl ?_
  refine Z_aload_n (pc' := 14) dX3_measure_13 rfl rfl ?_
  refine Z_getI' (ji := 0) (pc' := 17) dX3_measure_14 rfl rfl fX3_9 rfl (Or.inl dd_16) ?_
  have h1 := P.1
  have P := P.2
  have h2 := P.1
  have P := P.2
  refine Z_icmp_ge (tgt := 128) (pc' := 20) dX3_measure_17 (by decide) rfl h1 h2 (fun c3 => ?_) (fun c3 => ?_)
  · have P := P.1 c3
    refine Z_aload_n (pc' := 129) dX3_measure_128 rfl rfl ?_
    refine Z_aload_n (pc' := 130) dX3_measure_129 rfl rfl ?_
    refine Z_callV0 (M' := mX3_findLastEnds) (pc' := 133) (st := []) [.ref 1] dX3_measure_130 rfl vX3_findLastEnds lX3_49 (Or.inl dd_16) rfl (Nat.le_of_ble_eq_true rfl) (Nat.le_refl 0) (Nat.le_refl 0) ?_
    refine Cl_mono P ?_
    rintro _ μ4 ⟨rfl, P⟩
    show Z SS none mX3_measure (d + 1) 0 0 (qI Q) 133 [some (.ref 16), some (.ref 1), some (vi x2), some (vi x3), some (vi x4), none] [] μ4 0 0
    refine Z_aload_n (pc' := 134) dX3_measure_133 rfl rfl ?_
    refine Z_callV0 (M' := mX3_measureLines) (pc' := 137) (st := []) [] dX3_measure_134 rfl vX3_measureLines lX3_53 (Or.inl dd_16) rfl (Nat.le_of_ble_eq_true rfl) (Nat.le_refl 0) (Nat.le_refl 0) ?_
    refine Cl_mono P ?_
    rintro _ μ5 ⟨rfl, P⟩
    show Z SS none mX3_measure (d + 1) 0 0 (qI Q) 137 [some (.ref 16), some (.ref 1), some (vi x2), some (vi x3), some (vi x4), none] [] μ5 0 0
    refine Z_aload_n (pc' := 138) dX3_measure_137 rfl rfl ?_
    refine Z_getI' (ji := 0) (pc' := 141) dX3_measure_138 rfl rfl fX3_9 rfl (Or.inl dd_16) ?_
    have K : ∀ t8 : Int, t8 = (if (gI μ5 16 0) ≤ 0 then 0 else 1) → Z SS none mX3_measure (d + 1) 0 0 (qI Q) 149 [some (.ref 16), some (.ref 1), some (vi x2), some (vi x3), some (vi x4), none] [vi t8] μ5 0 0 := by
      rintro _ rfl
      have P := P.2
      exact Z_zreturn dX3_measure_149 rfl (by (repeat' split) <;> simp) (Nat.le_refl 0) (Nat.le_refl 0) P
    have G := P.1
    have h6 := G
    refine Z_if_le (tgt := 148) (pc' := 144) dX3_measure_141 (by decide) rfl h6 (fun c7 => ?_) (fun c7 => ?_)
    · refine Z_iconst (pc' := 149) dX3_measure_148 rfl ?_
      refine Z_wk [true, true, true, true, true, false] rfl ?_
      exact K _ (by rw [if_pos c7])
    · refine Z_iconst (pc' := 145) dX3_measure_144 rfl ?_
      refine Z_goto (tgt := 149) dX3_measure_145 (by decide) ?_
      refine Z_wk [true, true, true, true, true, false] rfl ?_
      exact K _ (by rw [if_neg c7])
  · have P := P.2 c3
    refine Z_aload_n (pc' := 21) dX3_measure_20 rfl rfl ?_
    refine Z_iload (pc' := 23) dX3_measure_21 rfl rfl ?_
    refine Z_iconst (pc' := 24) dX3_measure_23 rfl ?_
    refine Z_callV0 (M' := mX5_partOfWord) (pc' := 27) (st := []) [vi x4, vi 1] dX3_measure_24 rfl vX5_partOfWord lX3_37 (Or.inl dd_1) rfl (Nat.le_of_ble_eq_true rfl) (Nat.le_refl 0) (Nat.le_refl 0) ?_
    refine Cl_mono P ?_
    rintro _ μ9 ⟨r10, rfl, P⟩
    show Z SS none mX3_measure (d + 1) 0 0 (qI Q) 27 [some (.ref 16), some (.ref 1), some (vi x2), some (vi x3), some (vi x4), none] [vi r10] μ9 0 0
    refine Z_istore (pc' := 29) (lo' := [some (.ref 16), some (.ref 1), some (vi x2), some (vi x3), some (vi x4), some (vi r10)]) dX3_measure_27 rfl (by decide) rfl ?_
    refine Z_aload_n (pc' := 30) dX3_measure_29 rfl rfl ?_
    refine Z_getR (q := 17) (pc' := 33) dX3_measure_30 rfl fX3_15 rfl (Or.inl dd_16) (Or.inl rr_16_1) ?_
    refine Z_iload (pc' := 35) dX3_measure_33 rfl rfl ?_
    refine Z_iload_n (pc' := 36) dX3_measure_35 rfl rfl ?_
    refine Z_iload (pc' := 38) dX3_measure_36 rfl rfl ?_
    refine Z_iconst (pc' := 39) dX3_measure_38 rfl ?_
    refine Z_isub (pc' := 40) dX3_measure_39 rfl ?_
    refine Z_iload_n (pc' := 41) dX3_measure_40 rfl rfl ?_
    refine Z_imul (pc' := 42) dX3_measure_41 rfl ?_
    refine Z_iadd (pc' := 43) dX3_measure_42 rfl ?_
    have h11 := P.1
    have P := P.2
    have h12 := P.1
    have P := P.2
    refine Z_iastore (pc' := 44) dX3_measure_43 rfl (Or.inl dd_17) (Nat.le_of_ble_eq_true rfl) h11 h12 ?_
    refine Z_aload_n (pc' := 45) dX3_measure_44 rfl rfl ?_
    refine Z_getR (q := 17) (pc' := 48) dX3_measure_45 rfl fX3_15 rfl (Or.inl dd_16) (Or.inl rr_16_1) ?_
    refine Z_iload (pc' := 50) dX3_measure_48 rfl rfl ?_
    refine Z_iaload (pc' := 51) dX3_measure_50 rfl (Or.inl dd_17) (Nat.le_of_ble_eq_true rfl) h11 h12 ?_
    refine Z_aload_n (pc' := 52) dX3_measure_51 rfl rfl ?_
    refine Z_getR (q := 6) (pc' := 55) dX3_measure_52 rfl fX3_41 rfl (Or.inl dd_1) (Or.inl rr_1_3) ?_
    refine Z_iconst (pc' := 56) dX3_measure_55 rfl ?_
    refine Z_iload (pc' := 58) dX3_measure_56 rfl rfl ?_
    refine Z_iadd (pc' := 59) dX3_measure_58 rfl ?_
    have h13 := P.1
    have P := P.2
    have h14 := P.1
    have P := P.2
    refine Z_iaload (pc' := 60) dX3_measure_59 rfl (Or.inl dd_6) (Nat.le_of_ble_eq_true rfl) h13 h14 ?_
    have h15 := P.1
    have P := P.2
    have h16 := P.1
    have P := P.2
    refine Z_icmp_ge (tgt := 65) (pc' := 63) dX3_measure_60 (by decide) rfl h15 h16 (fun c17 => ?_) (fun c17 => ?_)
    · have P := P.1 c17
      refine Z_aload_n (pc' := 66) dX3_measure_65 rfl rfl ?_
      refine Z_getR (q := 18) (pc' := 69) dX3_measure_66 rfl fX3_19 rfl (Or.inl dd_16) (Or.inl rr_16_2) ?_
      refine Z_iload (pc' := 71) dX3_measure_69 rfl rfl ?_
      refine Z_aload_n (pc' := 72) dX3_measure_71 rfl rfl ?_
      refine Z_iload (pc' := 74) dX3_measure_72 rfl rfl ?_
      refine Z_iconst (pc' := 75) dX3_measure_74 rfl ?_
      refine Z_callV0 (M' := mX5_partOfWord) (pc' := 78) (st := [vi x4, .ref 18]) [vi x4, vi 0] dX3_measure_75 rfl vX5_partOfWord lX3_37 (Or.inl dd_1) rfl (Nat.le_of_ble_eq_true rfl) (Nat.le_refl 0) (Nat.le_refl 0) ?_
      refine Cl_mono P ?_
      rintro _ μ18 ⟨r19, rfl, P⟩
      show Z SS none mX3_measure (d + 1) 0 0 (qI Q) 78 [some (.ref 16), some (.ref 1), some (vi x2), some (vi x3), some (vi x4), some (vi r10)] [vi r19, vi x4, .ref 18] μ18 0 0
      refine Z_aload_n (pc' := 79) dX3_measure_78 rfl rfl ?_
      refine Z_getR (q := 17) (pc' := 82) dX3_measure_79 rfl fX3_15 rfl (Or.inl dd_16) (Or.inl rr_16_1) ?_
      refine Z_iload (pc' := 84) dX3_measure_82 rfl rfl ?_
      refine Z_iaload (pc' := 85) dX3_measure_84 rfl (Or.inl dd_17) (Nat.le_of_ble_eq_true rfl) h11 h12 ?_
      refine Z_imul (pc' := 86) dX3_measure_85 rfl ?_
      refine Z_iastore (pc' := 87) dX3_measure_86 rfl (Or.inl dd_18) (Nat.le_of_ble_eq_true rfl) h11 h12 ?_
      refine Z_aload_n (pc' := 88) dX3_measure_87 rfl rfl ?_
      refine Z_getR (q := 19) (pc' := 91) dX3_measure_88 rfl fX3_22 rfl (Or.inl dd_16) (Or.inl rr_16_3) ?_
      refine Z_iload (pc' := 93) dX3_measure_91 rfl rfl ?_
      refine Z_iload (pc' := 95) dX3_measure_93 rfl rfl ?_
      have K : ∀ t25 : Int, t25 = (if x4 = 0 then 0 else (if (gI (sI μ18 18 x4 (r19 * (gI μ18 17 x4))) 17 x4) < (gI (sI μ18 18 x4 (r19 * (gI μ18 17 x4))) 17 (x4 - 1)) then (gI (sI μ18 18 x4 (r19 * (gI μ18 17 x4))) 17 x4) else (gI (sI μ18 18 x4 (r19 * (gI μ18 17 x4))) 17 (x4 - 1)))) → Z SS none mX3_measure (d + 1) 0 0 (qI Q) 121 [some (.ref 16), some (.ref 1), some (vi x2), some (vi x3), some (vi x4), some (vi r10)] [vi t25, vi x4, .ref 19] (sI μ18 18 x4 (r19 * (gI μ18 17 x4))) 0 0 := by
        rintro _ rfl
        have P := P.2
        refine Z_iastore (pc' := 122) dX3_measure_121 rfl (Or.inl dd_19) (Nat.le_of_ble_eq_true rfl) h11 h12 ?_
        refine Z_iinc (pc' := 125) (lo' := [some (.ref 16), some (.ref 1), some (vi x2), some (vi x3), some (vi (x4 + 1)), some (vi r10)]) dX3_measure_122 rfl (by decide) rfl rfl ?_
        refine Z_goto (tgt := 11) dX3_measure_125 (by decide) ?_
        refine Z_wk [true, true, true, true, true, false] rfl ?_
        exact P
      have G := P.1
      refine Z_if_ne (tgt := 102) (pc' := 98) dX3_measure_95 (by decide) rfl h1 (fun c20 => ?_) (fun c20 => ?_)
      · have G := G.2 c20
        refine Z_aload_n (pc' := 103) dX3_measure_102 rfl rfl ?_
        refine Z_getR (q := 17) (pc' := 106) dX3_measure_103 rfl fX3_15 rfl (Or.inl dd_16) (Or.inl rr_16_1) ?_
        refine Z_iload (pc' := 108) dX3_measure_106 rfl rfl ?_
        refine Z_iconst (pc' := 109) dX3_measure_108 rfl ?_
        refine Z_isub (pc' := 110) dX3_measure_109 rfl ?_
        have h21 := G.1
        have G := G.2
        have h22 := G.1
        have G := G.2
        refine Z_iaload (pc' := 111) dX3_measure_110 rfl (Or.inl dd_17) (Nat.le_of_ble_eq_true rfl) h21 h22 ?_
        refine Z_aload_n (pc' := 112) dX3_measure_111 rfl rfl ?_
        refine Z_getR (q := 17) (pc' := 115) dX3_measure_112 rfl fX3_15 rfl (Or.inl dd_16) (Or.inl rr_16_1) ?_
        refine Z_iload (pc' := 117) dX3_measure_115 rfl rfl ?_
        refine Z_iaload (pc' := 118) dX3_measure_117 rfl (Or.inl dd_17) (Nat.le_of_ble_eq_true rfl) h11 h12 ?_
        have h23 := G.1
        have G := G.2
        have h24 := G
        refine Z_min (pc' := 121) dX3_measure_118 rfl lX3_44 h23 h24 (Nat.le_refl 0) (Nat.le_refl 0) (Nat.le_of_ble_eq_true rfl) ?_
        exact K _ (by rw [if_neg c20])
      · refine Z_iconst (pc' := 99) dX3_measure_98 rfl ?_
        refine Z_goto (tgt := 121) dX3_measure_99 (by decide) ?_
        exact K _ (by rw [if_pos c20])
    · have P := P.2 c17
      refine Z_iconst (pc' := 64) dX3_measure_63 rfl ?_
      exact Z_zreturn dX3_measure_64 rfl (Or.inl rfl) (Nat.le_refl 0) (Nat.le_refl 0) P
theorem bX3_widthOf {d : Nat} {Q : Int → zMem → Prop} {μ : zMem} {x1 : Int} {x2 : Int} (P : (0 ≤ (((x1 * 14) + x2) - 1)) ∧ (((((x1 * 14) + x2) - 1) < 196) ∧ (Q (gI μ 21 (((x1 * 14) + x2) - 1)) μ))) : kX3_widthOf d x1 x2 μ Q := by
  refine Cl_of rfl (Nat.le_of_ble_eq_true rfl) rfl ?_
  show Z SS none mX3_widthOf d 0 0 (qI Q) 0 [some (.ref 16), some (vi x1), some (vi x2)] [] μ 0 0
  refine Z_aload_n (pc' := 1) dX3_widthOf_0 rfl rfl ?_
  refine Z_getR (q := 21) (pc' := 4) dX3_widthOf_1 rfl fX3_28 rfl (Or.inl dd_16) (Or.inl rr_16_5) ?_
  refine Z_iload_n (pc' := 5) dX3_widthOf_4 rfl rfl ?_
  refine Z_bipush (pc' := 7) dX3_widthOf_5 rfl rfl ?_
  refine Z_imul (pc' := 8) dX3_widthOf_7 rfl ?_
  refine Z_iload_n (pc' := 9) dX3_widthOf_8 rfl rfl ?_
  refine Z_iadd (pc' := 10) dX3_widthOf_9 rfl ?_
  refine Z_iconst (pc' := 11) dX3_widthOf_10 rfl ?_
  refine Z_isub (pc' := 12) dX3_widthOf_11 rfl ?_
  have h1 := P.1
  have P := P.2
  have h2 := P.1
  have P := P.2
  refine Z_iaload (pc' := 13) dX3_widthOf_12 rfl (Or.inl dd_21) (Nat.le_of_ble_eq_true rfl) h1 h2 ?_
  exact Z_ireturn dX3_widthOf_13 rfl (Nat.le_refl 0) (Nat.le_refl 0) P
theorem bX3_heightOf {d : Nat} {Q : Int → zMem → Prop} {μ : zMem} {x1 : Int} {x2 : Int} (P : (0 ≤ (((x1 * 14) + x2) - 1)) ∧ (((((x1 * 14) + x2) - 1) < 196) ∧ (Q (gI μ 22 (((x1 * 14) + x2) - 1)) μ))) : kX3_heightOf d x1 x2 μ Q := by
  refine Cl_of rfl (Nat.le_of_ble_eq_true rfl) rfl ?_
  show Z SS none mX3_heightOf d 0 0 (qI Q) 0 [some (.ref 16), some (vi x1), some (vi x2)] [] μ 0 0
  refine Z_aload_n (pc' := 1) dX3_heightOf_0 rfl rfl ?_
  refine Z_getR (q := 22) (pc' := 4) dX3_heightOf_1 rfl fX3_31 rfl (Or.inl dd_16) (Or.inl rr_16_6) ?_
  refine Z_iload_n (pc' := 5) dX3_heightOf_4 rfl rfl ?_
  refine Z_bipush (pc' := 7) dX3_heightOf_5 rfl rfl ?_
  refine Z_imul (pc' := 8) dX3_heightOf_7 rfl ?_
  refine Z_iload_n (pc' := 9) dX3_heightOf_8 rfl rfl ?_
  refine Z_iadd (pc' := 10) dX3_heightOf_9 rfl ?_
  refine Z_iconst (pc' := 11) dX3_heightOf_10 rfl ?_
  refine Z_isub (pc' := 12) dX3_heightOf_11 rfl ?_
  have h1 := P.1
  have P := P.2
  have h2 := P.1
  have P := P.2
  refine Z_iaload (pc' := 13) dX3_heightOf_12 rfl (Or.inl dd_22) (Nat.le_of_ble_eq_true rfl) h1 h2 ?_
  exact Z_ireturn dX3_heightOf_13 rfl (Nat.le_refl 0) (Nat.le_refl 0) P
theorem bX4_init {S : zS} {d : Nat} {Q : zMem → Prop} {μ : zMem} {p0 : Nat} (P : (0 + 1 ≤ 18) ∧ ((0 + 3 ≤ 3677) ∧ (∀ q1 : Nat, q1 = (gD μ).length → (((0 + 1) + 3 ≤ 18) ∧ (((0 + 3) + 2629 ≤ 3677) ∧ (kX0_init S d q1 (aD μ 0 0) (fun μ7 : zMem => ((gD μ7)[p0]? = some (4, 0)) ∧ ((S.1 p0 0 = none ∨ S.1 p0 0 = some q1) ∧ ((((0 + 1) + 3) + 1 ≤ 18) ∧ ((((0 + 3) + 2629) + 7 ≤ 3677) ∧ (∀ q10 : Nat, q10 = (gD (sR μ7 p0 0 (some q1))).length → (((((0 + 1) + 3) + 1) + 6 ≤ 18) ∧ (((((0 + 3) + 2629) + 7) + 448 ≤ 3677) ∧ (kX3_init S d q10 (aD (sR μ7 p0 0 (some q1)) 3 0) (fun μ16 : zMem => ((gD μ16)[p0]? = some (4, 0)) ∧ ((S.1 p0 1 = none ∨ S.1 p0 1 = some q10) ∧ ((((((0 + 1) + 3) + 1) + 6) + 1 ≤ 18) ∧ ((((((0 + 3) + 2629) + 7) + 448) + 504 ≤ 3677) ∧ (∀ q19 : Nat, q19 = (gD (sR μ16 p0 1 (some q10))).length → (((gD (aD (sR μ16 p0 1 (some q10)) 9 504))[p0]? = some (4, 0)) ∧ ((S.1 p0 6 = none ∨ S.1 p0 6 = some q19) ∧ (((((((0 + 1) + 3) + 1) + 6) + 1) + 1 ≤ 18) ∧ (((((((0 + 3) + 2629) + 7) + 448) + 504) + 15 ≤ 3677) ∧ (∀ q25 : Nat, q25 = (gD (sR (aD (sR μ16 p0 1 (some q10)) 9 504) p0 6 (some q19))).length → (((gD (aD (sR (aD (sR μ16 p0 1 (some q10)) 9 504) p0 6 (some q19)) 9 15))[p0]? = some (4, 0)) ∧ ((S.1 p0 7 = none ∨ S.1 p0 7 = some q25) ∧ ((((((((0 + 1) + 3) + 1) + 6) + 1) + 1) + 1 ≤ 18) ∧ ((((((((0 + 3) + 2629) + 7) + 448) + 504) + 15) + 14 ≤ 3677) ∧ (∀ q31 : Nat, q31 = (gD (sR (aD (sR (aD (sR μ16 p0 1 (some q10)) 9 504) p0 6 (some q19)) 9 15) p0 7 (some q25))).length → (((gD (aD (sR (aD (sR (aD (sR μ16 p0 1 (some q10)) 9 504) p0 6 (some q19)) 9 15) p0 7 (some q25)) 9 14))[p0]? = some (4, 0)) ∧ ((S.1 p0 8 = none ∨ S.1 p0 8 = some q31) ∧ (((((((((0 + 1) + 3) + 1) + 6) + 1) + 1) + 1) + 1 ≤ 18) ∧ (((((((((0 + 3) + 2629) + 7) + 448) + 504) + 15) + 14) + 14 ≤ 3677) ∧ (∀ q37 : Nat, q37 = (gD (sR (aD (sR (aD (sR (aD (sR μ16 p0 1 (some q10)) 9 504) p0 6 (some q19)) 9 15) p0 7 (some q25)) 9 14) p0 8 (some q31))).length → (((gD (aD (sR (aD (sR (aD (sR (aD (sR μ16 p0 1 (some q10)) 9 504) p0 6 (some q19)) 9 15) p0 7 (some q25)) 9 14) p0 8 (some q31)) 9 14))[p0]? = some (4, 0)) ∧ ((S.1 p0 9 = none ∨ S.1 p0 9 = some q37) ∧ ((((((((((0 + 1) + 3) + 1) + 6) + 1) + 1) + 1) + 1) + 1 ≤ 18) ∧ ((((((((((0 + 3) + 2629) + 7) + 448) + 504) + 15) + 14) + 14) + 14 ≤ 3677) ∧ (∀ q43 : Nat, q43 = (gD (sR (aD (sR (aD (sR (aD (sR (aD (sR μ16 p0 1 (some q10)) 9 504) p0 6 (some q19)) 9 15) p0 7 (some q25)) 9 14) p0 8 (some q31)) 9 14) p0 9 (some q37))).length → (((gD (aD (sR (aD (sR (aD (sR (aD (sR (aD (sR μ16 p0 1 (some q10)) 9 504) p0 6 (some q19)) 9 15) p0 7 (some q25)) 9 14) p0 8 (some q31)) 9 14) p0 9 (some q37)) 9 14))[p0]? = some (4, 0)) ∧ ((S.1 p0 10 = none ∨ S.1 p0 10 = some q43) ∧ (((((((((((0 + 1) + 3) + 1) + 6) + 1) + 1) + 1) + 1) + 1) + 1 ≤ 18) ∧ (((((((((((0 + 3) + 2629) + 7) + 448) + 504) + 15) + 14) + 14) + 14) + 14 ≤ 3677) ∧ (∀ q49 : Nat, q49 = (gD (sR (aD (sR (aD (sR (aD (sR (aD (sR (aD (sR μ16 p0 1 (some q10)) 9 504) p0 6 (some q19)) 9 15) p0 7 (some q25)) 9 14) p0 8 (some q31)) 9 14) p0 9 (some q37)) 9 14) p0 10 (some q43))).length → (((gD (aD (sR (aD (sR (aD (sR (aD (sR (aD (sR (aD (sR μ16 p0 1 (some q10)) 9 504) p0 6 (some q19)) 9 15) p0 7 (some q25)) 9 14) p0 8 (some q31)) 9 14) p0 9 (some q37)) 9 14) p0 10 (some q43)) 9 14))[p0]? = some (4, 0)) ∧ ((S.1 p0 11 = none ∨ S.1 p0 11 = some q49) ∧ ((((((((((((0 + 1) + 3) + 1) + 6) + 1) + 1) + 1) + 1) + 1) + 1) + 1 ≤ 18) ∧ ((((((((((((0 + 3) + 2629) + 7) + 448) + 504) + 15) + 14) + 14) + 14) + 14) + 15 ≤ 3677) ∧ (∀ q55 : Nat, q55 = (gD (sR (aD (sR (aD (sR (aD (sR (aD (sR (aD (sR (aD (sR μ16 p0 1 (some q10)) 9 504) p0 6 (some q19)) 9 15) p0 7 (some q25)) 9 14) p0 8 (some q31)) 9 14) p0 9 (some q37)) 9 14) p0 10 (some q43)) 9 14) p0 11 (some q49))).length → (((gD (aD (sR (aD (sR (aD (sR (aD (sR (aD (sR (aD (sR (aD (sR μ16 p0 1 (some q10)) 9 504) p0 6 (some q19)) 9 15) p0 7 (some q25)) 9 14) p0 8 (some q31)) 9 14) p0 9 (some q37)) 9 14) p0 10 (some q43)) 9 14) p0 11 (some q49)) 9 15))[p0]? = some (4, 0)) ∧ ((S.1 p0 15 = none ∨ S.1 p0 15 = some q55) ∧ (((((((((((((0 + 1) + 3) + 1) + 6) + 1) + 1) + 1) + 1) + 1) + 1) + 1) ≤ 18) ∧ (((((((((((((0 + 3) + 2629) + 7) + 448) + 504) + 15) + 14) + 14) + 14) + 14) + 15) ≤ 3677) ∧ (Q (sR (aD (sR (aD (sR (aD (sR (aD (sR (aD (sR (aD (sR (aD (sR μ16 p0 1 (some q10)) 9 504) p0 6 (some q19)) 9 15) p0 7 (some q25)) 9 14) p0 8 (some q31)) 9 14) p0 9 (some q37)) 9 14) p0 10 (some q43)) 9 14) p0 11 (some q49)) 9 15) p0 15 (some q55)))))))))))))))))))))))))))))))))))))))))))))))))))))))) : kX4_init S (d + 1) p0 μ Q := by
  refine Cl_of rfl (Nat.le_of_ble_eq_true rfl) rfl ?_
  show Z S none mX4_init (d + 1) 18 3677 (qV Q) 0 [some (.ref p0)] [] μ 0 0
  refine Z_aload_n (pc' := 1) dX4_init_0 rfl rfl ?_
  refine Z_objInit (pc' := 4) dX4_init_1 rfl lX4_3 l_oi l_oc (Nat.le_of_ble_eq_true rfl) ?_
  refine Z_aload_n (pc' := 5) dX4_init_4 rfl rfl ?_
  obtain ⟨q1, h2⟩ : ∃ q : Nat, q = (gD μ).length := ⟨_, rfl⟩
  have h3 := P.1
  have P := P.2
  have h4 := P.1
  have P := P.2
  refine Z_new (c0 := 0) (pc' := 8) dX4_init_5 rfl (by decide) h3 h4 cX4_9 n_0 u_0 ?_
  rw [← h2]
  have P := P q1 h2
  refine Z_dup (pc' := 9) dX4_init_8 rfl rfl ?_
  have h5 := P.1
  have P := P.2
  have h6 := P.1
  have P := P.2
  refine Z_callIN (M' := mX0_init) (pc' := 12) (st := [.ref q1, .ref p0]) [] dX4_init_9 rfl iX0_init lX4_11 rfl (Nat.le_of_ble_eq_true rfl) h5 h6 ?_
  refine Cl_mono P ?_
  rintro _ μ7 ⟨rfl, P⟩
  show Z S none mX4_init (d + 1) 18 3677 (qV Q) 12 [some (.ref p0)] [.ref q1, .ref p0] μ7 ((0 + 1) + 3) ((0 + 3) + 2629)
  have h8 := P.1
  have P := P.2
  have h9 := P.1
  have P := P.2
  refine Z_putR' (ji := 0) (pc' := 15) dX4_init_12 rfl rfl fX4_12 (Or.inr ⟨rfl, rfl⟩) rfl (Or.inr h8) h9 ?_
  refine Z_aload_n (pc' := 16) dX4_init_15 rfl rfl ?_
  obtain ⟨q10, h11⟩ : ∃ q : Nat, q = (gD (sR μ7 p0 0 (some q1))).length := ⟨_, rfl⟩
  have h12 := P.1
  have P := P.2
  have h13 := P.1
  have P := P.2
  refine Z_new (c0 := 3) (pc' := 19) dX4_init_16 rfl (by decide) h12 h13 cX4_18 n_3 u_3 ?_
  rw [← h11]
  have P := P q10 h11
  refine Z_dup (pc' := 20) dX4_init_19 rfl rfl ?_
  have h14 := P.1
  have P := P.2
  have h15 := P.1
  have P := P.2
  refine Z_callIN (M' := mX3_init) (pc' := 23) (st := [.ref q10, .ref p0]) [] dX4_init_20 rfl iX3_init lX4_20 rfl (Nat.le_of_ble_eq_true rfl) h14 h15 ?_
  refine Cl_mono P ?_
  rintro _ μ16 ⟨rfl, P⟩
  show Z S none mX4_init (d + 1) 18 3677 (qV Q) 23 [some (.ref p0)] [.ref q10, .ref p0] μ16 ((((0 + 1) + 3) + 1) + 6) ((((0 + 3) + 2629) + 7) + 448)
  have h17 := P.1
  have P := P.2
  have h18 := P.1
  have P := P.2
  refine Z_putR' (ji := 1) (pc' := 26) dX4_init_23 rfl rfl fX4_21 (Or.inr ⟨rfl, rfl⟩) rfl (Or.inr h17) h18 ?_
  refine Z_aload_n (pc' := 27) dX4_init_26 rfl rfl ?_
  refine Z_sipush (pc' := 30) dX4_init_27 rfl rfl ?_
  obtain ⟨q19, h20⟩ : ∃ q : Nat, q = (gD (sR μ16 p0 1 (some q10))).length := ⟨_, rfl⟩
  have h21 := P.1
  have P := P.2
  have h22 := P.1
  have P := P.2
  refine Z_newI (pc' := 32) dX4_init_30 rfl (by decide) (by decide) h21 h22 l_ai ?_
  show Z S none mX4_init (d + 1) 18 3677 (qV Q) 32 _ _ (aD (sR μ16 p0 1 (some q10)) 9 504) (((((0 + 1) + 3) + 1) + 6) + 1) (((((0 + 3) + 2629) + 7) + 448) + 504)
  rw [← h20]
  have P := P q19 h20
  have h23 := P.1
  have P := P.2
  have h24 := P.1
  have P := P.2
  refine Z_putR' (ji := 6) (pc' := 35) dX4_init_32 rfl rfl fX4_25 (Or.inr ⟨rfl, rfl⟩) rfl (Or.inr h23) h24 ?_
  refine Z_aload_n (pc' := 36) dX4_init_35 rfl rfl ?_
  refine Z_bipush (pc' := 38) dX4_init_36 rfl rfl ?_
  obtain ⟨q25, h26⟩ : ∃ q : Nat, q = (gD (sR (aD (sR μ16 p0 1 (some q10)) 9 504) p0 6 (some q19))).length := ⟨_, rfl⟩
  have h27 := P.1
  have P := P.2
  have h28 := P.1
  have P := P.2
  refine Z_newI (pc' := 40) dX4_init_38 rfl (by decide) (by decide) h27 h28 l_ai ?_
  show Z S none mX4_init (d + 1) 18 3677 (qV Q) 40 _ _ (aD (sR (aD (sR μ16 p0 1 (some q10)) 9 504) p0 6 (some q19)) 9 15) ((((((0 + 1) + 3) + 1) + 6) + 1) + 1) ((((((0 + 3) + 2629) + 7) + 448) + 504) + 15)
  rw [← h26]
  have P := P q25 h26
  have h29 := P.1
  have P := P.2
  have h30 := P.1
  have P := P.2
  refine Z_putR' (ji := 7) (pc' := 43) dX4_init_40 rfl rfl fX4_29 (Or.inr ⟨rfl, rfl⟩) rfl (Or.inr h29) h30 ?_
  refine Z_aload_n (pc' := 44) dX4_init_43 rfl rfl ?_
  refine Z_bipush (pc' := 46) dX4_init_44 rfl rfl ?_
  obtain ⟨q31, h32⟩ : ∃ q : Nat, q = (gD (sR (aD (sR (aD (sR μ16 p0 1 (some q10)) 9 504) p0 6 (some q19)) 9 15) p0 7 (some q25))).length := ⟨_, rfl⟩
  have h33 := P.1
  have P := P.2
  have h34 := P.1
  have P := P.2
  refine Z_newI (pc' := 48) dX4_init_46 rfl (by decide) (by decide) h33 h34 l_ai ?_
  show Z S none mX4_init (d + 1) 18 3677 (qV Q) 48 _ _ (aD (sR (aD (sR (aD (sR μ16 p0 1 (some q10)) 9 504) p0 6 (some q19)) 9 15) p0 7 (some q25)) 9 14) (((((((0 + 1) + 3) + 1) + 6) + 1) + 1) + 1) (((((((0 + 3) + 2629) + 7) + 448) + 504) + 15) + 14)
  rw [← h32]
  have P := P q31 h32
  have h35 := P.1
  have P := P.2
  have h36 := P.1
  have P := P.2
  refine Z_putR' (ji := 8) (pc' := 51) dX4_init_48 rfl rfl fX4_32 (Or.inr ⟨rfl, rfl⟩) rfl (Or.inr h35) h36 ?_
  refine Z_aload_n (pc' := 52) dX4_init_51 rfl rfl ?_
  refine Z_bipush (pc' := 54) dX4_init_52 rfl rfl ?_
  obtain ⟨q37, h38⟩ : ∃ q : Nat, q = (gD (sR (aD (sR (aD (sR (aD (sR μ16 p0 1 (some q10)) 9 504) p0 6 (some q19)) 9 15) p0 7 (some q25)) 9 14) p0 8 (some q31))).length := ⟨_, rfl⟩
  have h39 := P.1
  have P := P.2
  have h40 := P.1
  have P := P.2
  refine Z_newI (pc' := 56) dX4_init_54 rfl (by decide) (by decide) h39 h40 l_ai ?_
  show Z S none mX4_init (d + 1) 18 3677 (qV Q) 56 _ _ (aD (sR (aD (sR (aD (sR (aD (sR μ16 p0 1 (some q10)) 9 504) p0 6 (some q19)) 9 15) p0 7 (some q25)) 9 14) p0 8 (some q31)) 9 14) ((((((((0 + 1) + 3) + 1) + 6) + 1) + 1) + 1) + 1) ((((((((0 + 3) + 2629) + 7) + 448) + 504) + 15) + 14) + 14)
  rw [← h38]
  have P := P q37 h38
  have h41 := P.1
  have P := P.2
  have h42 := P.1
  have P := P.2
  refine Z_putR' (ji := 9) (pc' := 59) dX4_init_56 rfl rfl fX4_35 (Or.inr ⟨rfl, rfl⟩) rfl (Or.inr h41) h42 ?_
  refine Z_aload_n (pc' := 60) dX4_init_59 rfl rfl ?_
  refine Z_bipush (pc' := 62) dX4_init_60 rfl rfl ?_
  obtain ⟨q43, h44⟩ : ∃ q : Nat, q = (gD (sR (aD (sR (aD (sR (aD (sR (aD (sR μ16 p0 1 (some q10)) 9 504) p0 6 (some q19)) 9 15) p0 7 (some q25)) 9 14) p0 8 (some q31)) 9 14) p0 9 (some q37))).length := ⟨_, rfl⟩
  have h45 := P.1
  have P := P.2
  have h46 := P.1
  have P := P.2
  refine Z_newI (pc' := 64) dX4_init_62 rfl (by decide) (by decide) h45 h46 l_ai ?_
  show Z S none mX4_init (d + 1) 18 3677 (qV Q) 64 _ _ (aD (sR (aD (sR (aD (sR (aD (sR (aD (sR μ16 p0 1 (some q10)) 9 504) p0 6 (some q19)) 9 15) p0 7 (some q25)) 9 14) p0 8 (some q31)) 9 14) p0 9 (some q37)) 9 14) (((((((((0 + 1) + 3) + 1) + 6) + 1) + 1) + 1) + 1) + 1) (((((((((0 + 3) + 2629) + 7) + 448) + 504) + 15) + 14) + 14) + 14)
  rw [← h44]
  have P := P q43 h44
  have h47 := P.1
  have P := P.2
  have h48 := P.1
  have P := P.2
  refine Z_putR' (ji := 10) (pc' := 67) dX4_init_64 rfl rfl fX4_38 (Or.inr ⟨rfl, rfl⟩) rfl (Or.inr h47) h48 ?_
  refine Z_aload_n (pc' := 68) dX4_init_67 rfl rfl ?_
  refine Z_bipush (pc' := 70) dX4_init_68 rfl rfl ?_
  obtain ⟨q49, h50⟩ : ∃ q : Nat, q = (gD (sR (aD (sR (aD (sR (aD (sR (aD (sR (aD (sR μ16 p0 1 (some q10)) 9 504) p0 6 (some q19)) 9 15) p0 7 (some q25)) 9 14) p0 8 (some q31)) 9 14) p0 9 (some q37)) 9 14) p0 10 (some q43))).length := ⟨_, rfl⟩
  have h51 := P.1
  have P := P.2
  have h52 := P.1
  have P := P.2
  refine Z_newI (pc' := 72) dX4_init_70 rfl (by decide) (by decide) h51 h52 l_ai ?_
  show Z S none mX4_init (d + 1) 18 3677 (qV Q) 72 _ _ (aD (sR (aD (sR (aD (sR (aD (sR (aD (sR (aD (sR μ16 p0 1 (some q10)) 9 504) p0 6 (some q19)) 9 15) p0 7 (some q25)) 9 14) p0 8 (some q31)) 9 14) p0 9 (some q37)) 9 14) p0 10 (some q43)) 9 14) ((((((((((0 + 1) + 3) + 1) + 6) + 1) + 1) + 1) + 1) + 1) + 1) ((((((((((0 + 3) + 2629) + 7) + 448) + 504) + 15) + 14) + 14) + 14) + 14)
  rw [← h50]
  have P := P q49 h50
  have h53 := P.1
  have P := P.2
  have h54 := P.1
  have P := P.2
  refine Z_putR' (ji := 11) (pc' := 75) dX4_init_72 rfl rfl fX4_41 (Or.inr ⟨rfl, rfl⟩) rfl (Or.inr h53) h54 ?_
  refine Z_aload_n (pc' := 76) dX4_init_75 rfl rfl ?_
  refine Z_bipush (pc' := 78) dX4_init_76 rfl rfl ?_
  obtain ⟨q55, h56⟩ : ∃ q : Nat, q = (gD (sR (aD (sR (aD (sR (aD (sR (aD (sR (aD (sR (aD (sR μ16 p0 1 (some q10)) 9 504) p0 6 (some q19)) 9 15) p0 7 (some q25)) 9 14) p0 8 (some q31)) 9 14) p0 9 (some q37)) 9 14) p0 10 (some q43)) 9 14) p0 11 (some q49))).length := ⟨_, rfl⟩
  have h57 := P.1
  have P := P.2
  have h58 := P.1
  have P := P.2
  refine Z_newI (pc' := 80) dX4_init_78 rfl (by decide) (by decide) h57 h58 l_ai ?_
  show Z S none mX4_init (d + 1) 18 3677 (qV Q) 80 _ _ (aD (sR (aD (sR (aD (sR (aD (sR (aD (sR (aD (sR (aD (sR μ16 p0 1 (some q10)) 9 504) p0 6 (some q19)) 9 15) p0 7 (some q25)) 9 14) p0 8 (some q31)) 9 14) p0 9 (some q37)) 9 14) p0 10 (some q43)) 9 14) p0 11 (some q49)) 9 15) (((((((((((0 + 1) + 3) + 1) + 6) + 1) + 1) + 1) + 1) + 1) + 1) + 1) (((((((((((0 + 3) + 2629) + 7) + 448) + 504) + 15) + 14) + 14) + 14) + 14) + 15)
  rw [← h56]
  have P := P q55 h56
  have h59 := P.1
  have P := P.2
  have h60 := P.1
  have P := P.2
  refine Z_putR' (ji := 15) (pc' := 83) dX4_init_80 rfl rfl fX4_44 (Or.inr ⟨rfl, rfl⟩) rfl (Or.inr h59) h60 ?_
  have h61 := P.1
  have P := P.2
  have h62 := P.1
  have P := P.2
  exact Z_return dX4_init_83 rfl h61 h62 P
theorem bX4_slackOf {d : Nat} {Q : Int → zMem → Prop} {μ : zMem} {x1 : Int} {x2 : Int} {x3 : Int} (P : kX3_heightOf d x1 x2 μ (fun (r2 : Int) (μ1 : zMem) => (zIn (x3 + r2)) ∧ (((x3 + r2) ≤ 36 → (kX0_lengthOf d x3 r2 μ1 (fun (r6 : Int) (μ5 : zMem) => kX3_widthOf d x1 x2 μ5 (fun (r8 : Int) (μ7 : zMem) => ((zIn (r6 - r8))) ∧ (Q (if (r6 - r8) < 0 then (-1) else (r6 - r8)) μ7))))) ∧ (¬ ((x3 + r2) ≤ 36) → (Q (-1) μ1))))) : kX4_slackOf (d + 1) x1 x2 x3 μ Q := by
  refine Cl_of rfl (Nat.le_of_ble_eq_true rfl) rfl ?_
  show Z SS none mX4_slackOf (d + 1) 0 0 (qI Q) 0 [some (.ref 11), some (vi x1), some (vi x2), some (vi x3), none, none] [] μ 0 0
  refine Z_aload_n (pc' := 1) dX4_slackOf_0 rfl rfl ?_
  refine Z_getR (q := 16) (pc' := 4) dX4_slackOf_1 rfl fX4_21 rfl (Or.inl dd_11) (Or.inl rr_11_1) ?_
  refine Z_iload_n (pc' := 5) dX4_slackOf_4 rfl rfl ?_
  refine Z_iload_n (pc' := 6) dX4_slackOf_5 rfl rfl ?_
  refine Z_callV0 (M' := mX3_heightOf) (pc' := 9) (st := []) [vi x1, vi x2] dX4_slackOf_6 rfl vX3_heightOf lX4_131 (Or.inl dd_16) rfl (Nat.le_of_ble_eq_true rfl) (Nat.le_refl 0) (Nat.le_refl 0) ?_
  refine Cl_mono P ?_
  rintro _ μ1 ⟨r2, rfl, P⟩
  show Z SS none mX4_slackOf (d + 1) 0 0 (qI Q) 9 [some (.ref 11), some (vi x1), some (vi x2), some (vi x3), none, none] [vi r2] μ1 0 0
  refine Z_istore (pc' := 11) (lo' := [some (.ref 11), some (vi x1), some (vi x2), some (vi x3), some (vi r2), none]) dX4_slackOf_9 rfl (by decide) rfl ?_
  refine Z_iload_n (pc' := 12) dX4_slackOf_11 rfl rfl ?_
  refine Z_iload (pc' := 14) dX4_slackOf_12 rfl rfl ?_
  refine Z_iadd (pc' := 15) dX4_slackOf_14 rfl ?_
  refine Z_bipush (pc' := 17) dX4_slackOf_15 rfl rfl ?_
  have h3 := P.1
  have P := P.2
  refine Z_icmp_le (tgt := 22) (pc' := 20) dX4_slackOf_17 (by decide) rfl h3 (z_lit rfl) (fun c4 => ?_) (fun c4 => ?_)
  · have P := P.1 c4
    refine Z_aload_n (pc' := 23) dX4_slackOf_22 rfl rfl ?_
    refine Z_getR (q := 12) (pc' := 26) dX4_slackOf_23 rfl fX4_12 rfl (Or.inl dd_11) (Or.inl rr_11_0) ?_
    refine Z_iload_n (pc' := 27) dX4_slackOf_26 rfl rfl ?_
    refine Z_iload (pc' := 29) dX4_slackOf_27 rfl rfl ?_
    refine Z_callV0 (M' := mX0_lengthOf) (pc' := 32) (st := []) [vi x3, vi r2] dX4_slackOf_29 rfl vX0_lengthOf lX4_134 (Or.inl dd_12) rfl (Nat.le_of_ble_eq_true rfl) (Nat.le_refl 0) (Nat.le_refl 0) ?_
    refine Cl_mono P ?_
    rintro _ μ5 ⟨r6, rfl, P⟩
    show Z SS none mX4_slackOf (d + 1) 0 0 (qI Q) 32 [some (.ref 11), some (vi x1), some (vi x2), some (vi x3), some (vi r2), none] [vi r6] μ5 0 0
    refine Z_aload_n (pc' := 33) dX4_slackOf_32 rfl rfl ?_
    refine Z_getR (q := 16) (pc' := 36) dX4_slackOf_33 rfl fX4_21 rfl (Or.inl dd_11) (Or.inl rr_11_1) ?_
    refine Z_iload_n (pc' := 37) dX4_slackOf_36 rfl rfl ?_
    refine Z_iload_n (pc' := 38) dX4_slackOf_37 rfl rfl ?_
    refine Z_callV0 (M' := mX3_widthOf) (pc' := 41) (st := [vi r6]) [vi x1, vi x2] dX4_slackOf_38 rfl vX3_widthOf lX4_137 (Or.inl dd_16) rfl (Nat.le_of_ble_eq_true rfl) (Nat.le_refl 0) (Nat.le_refl 0) ?_
    refine Cl_mono P ?_
    rintro _ μ7 ⟨r8, rfl, P⟩
    show Z SS none mX4_slackOf (d + 1) 0 0 (qI Q) 41 [some (.ref 11), some (vi x1), some (vi x2), some (vi x3), some (vi r2), none] [vi r8, vi r6] μ7 0 0
    refine Z_isub (pc' := 42) dX4_slackOf_41 rfl ?_
    refine Z_istore (pc' := 44) (lo' := [some (.ref 11), some (vi x1), some (vi x2), some (vi x3), some (vi r2), some (vi (r6 - r8))]) dX4_slackOf_42 rfl (by decide) rfl ?_
    refine Z_iload (pc' := 46) dX4_slackOf_44 rfl rfl ?_
    have K : ∀ t11 : Int, t11 = (if (r6 - r8) < 0 then (-1) else (r6 - r8)) → Z SS none mX4_slackOf (d + 1) 0 0 (qI Q) 55 [some (.ref 11), some (vi x1), some (vi x2), some (vi x3), some (vi r2), some (vi (r6 - r8))] [vi t11] μ7 0 0 := by
      rintro _ rfl
      have P := P.2
      exact Z_ireturn dX4_slackOf_55 rfl (Nat.le_refl 0) (Nat.le_refl 0) P
    have G := P.1
    have h9 := G
    refine Z_if_lt (tgt := 54) (pc' := 49) dX4_slackOf_46 (by decide) rfl h9 (fun c10 => ?_) (fun c10 => ?_)
    · refine Z_iconst (pc' := 55) dX4_slackOf_54 rfl ?_
      exact K _ (by rw [if_pos c10])
    · refine Z_iload (pc' := 51) dX4_slackOf_49 rfl rfl ?_
      refine Z_goto (tgt := 55) dX4_slackOf_51 (by decide) ?_
      exact K _ (by rw [if_neg c10])
  · have P := P.2 c4
    refine Z_iconst (pc' := 21) dX4_slackOf_20 rfl ?_
    exact Z_ireturn dX4_slackOf_21 rfl (Nat.le_refl 0) (Nat.le_refl 0) P
theorem bX4_rowBehind {d : Nat} {Q : Int → zMem → Prop} {μ : zMem} {x1 : Int} {x2 : Int} {x3 : Int} (P : kX3_heightOf d x1 x2 μ (fun (r2 : Int) (μ1 : zMem) => Q ((x3 + r2) + (gI μ1 11 3)) μ1)) : kX4_rowBehind (d + 1) x1 x2 x3 μ Q := by
  refine Cl_of rfl (Nat.le_of_ble_eq_true rfl) rfl ?_
  show Z SS none mX4_rowBehind (d + 1) 0 0 (qI Q) 0 [some (.ref 11), some (vi x1), some (vi x2), some (vi x3)] [] μ 0 0
  refine Z_iload_n (pc' := 1) dX4_rowBehind_0 rfl rfl ?_
  refine Z_aload_n (pc' := 2) dX4_rowBehind_1 rfl rfl ?_
  refine Z_getR (q := 16) (pc' := 5) dX4_rowBehind_2 rfl fX4_21 rfl (Or.inl dd_11) (Or.inl rr_11_1) ?_
  refine Z_iload_n (pc' := 6) dX4_rowBehind_5 rfl rfl ?_
  refine Z_iload_n (pc' := 7) dX4_rowBehind_6 rfl rfl ?_
  refine Z_callV0 (M' := mX3_heightOf) (pc' := 10) (st := [vi x3]) [vi x1, vi x2] dX4_rowBehind_7 rfl vX3_heightOf lX4_131 (Or.inl dd_16) rfl (Nat.le_of_ble_eq_true rfl) (Nat.le_refl 0) (Nat.le_refl 0) ?_
  refine Cl_mono P ?_
  rintro _ μ1 ⟨r2, rfl, P⟩
  show Z SS none mX4_rowBehind (d + 1) 0 0 (qI Q) 10 [some (.ref 11), some (vi x1), some (vi x2), some (vi x3)] [vi r2, vi x3] μ1 0 0
  refine Z_iadd (pc' := 11) dX4_rowBehind_10 rfl ?_
  refine Z_aload_n (pc' := 12) dX4_rowBehind_11 rfl rfl ?_
  refine Z_getI' (ji := 3) (pc' := 15) dX4_rowBehind_12 rfl rfl fX4_77 rfl (Or.inl dd_11) ?_
  refine Z_iadd (pc' := 16) dX4_rowBehind_15 rfl ?_
  exact Z_ireturn dX4_rowBehind_16 rfl (Nat.le_refl 0) (Nat.le_refl 0) P
theorem bX4_leastCostFrom {d : Nat} {Q : Int → zMem → Prop} {μ : zMem} {x1 : Int} {x2 : Int} (P : (zIn x1) ∧ ((zIn (gI μ 16 0)) ∧ ((x1 < (gI μ 16 0) → (((zIn x2) ∧ ((36 ≤ x2 → True) ∧ (¬ (36 ≤ x2) → ((0 ≤ ((x1 * 36) + x2)) ∧ ((((x1 * 36) + x2) < 504)))))) ∧ (Q (if 36 ≤ x2 then (-1) else (gI μ 23 ((x1 * 36) + x2))) μ))) ∧ (¬ (x1 < (gI μ 16 0)) → (Q 0 μ))))) : kX4_leastCostFrom d x1 x2 μ Q := by
  refine Cl_of rfl (Nat.le_of_ble_eq_true rfl) rfl ?_
  show Z SS none mX4_leastCostFrom d 0 0 (qI Q) 0 [some (.ref 11), some (vi x1), some (vi x2)] [] μ 0 0
  refine Z_iload_n (pc' := 1) dX4_leastCostFrom_0 rfl rfl ?_
  refine Z_aload_n (pc' := 2) dX4_leastCostFrom_1 rfl rfl ?_
  refine Z_getR (q := 16) (pc' := 5) dX4_leastCostFrom_2 rfl fX4_21 rfl (Or.inl dd_11) (Or.inl rr_11_1) ?_
  refine Z_getI' (ji := 0) (pc' := 8) dX4_leastCostFrom_5 rfl rfl fX4_86 rfl (Or.inl dd_16) ?_
  have h1 := P.1
  have P := P.2
  have h2 := P.1
  have P := P.2
  refine Z_icmp_lt (tgt := 13) (pc' := 11) dX4_leastCostFrom_8 (by decide) rfl h1 h2 (fun c3 => ?_) (fun c3 => ?_)
  · have P := P.1 c3
    refine Z_iload_n (pc' := 14) dX4_leastCostFrom_13 rfl rfl ?_
    refine Z_bipush (pc' := 16) dX4_leastCostFrom_14 rfl rfl ?_
    have K : ∀ t8 : Int, t8 = (if 36 ≤ x2 then (-1) else (gI μ 23 ((x1 * 36) + x2))) → Z SS none mX4_leastCostFrom d 0 0 (qI Q) 34 [some (.ref 11), some (vi x1), some (vi x2)] [vi t8] μ 0 0 := by
      rintro _ rfl
      have P := P.2
      exact Z_ireturn dX4_leastCostFrom_34 rfl (Nat.le_refl 0) (Nat.le_refl 0) P
    have G := P.1
    have h4 := G.1
    have G := G.2
    refine Z_icmp_ge (tgt := 33) (pc' := 19) dX4_leastCostFrom_16 (by decide) rfl h4 (z_lit rfl) (fun c5 => ?_) (fun c5 => ?_)
    · refine Z_iconst (pc' := 34) dX4_leastCostFrom_33 rfl ?_
      exact K _ (by rw [if_pos c5])
    · have G := G.2 c5
      refine Z_aload_n (pc' := 20) dX4_leastCostFrom_19 rfl rfl ?_
      refine Z_getR (q := 23) (pc' := 23) dX4_leastCostFrom_20 rfl fX4_25 rfl (Or.inl dd_11) (Or.inl rr_11_6) ?_
      refine Z_iload_n (pc' := 24) dX4_leastCostFrom_23 rfl rfl ?_
      refine Z_bipush (pc' := 26) dX4_leastCostFrom_24 rfl rfl ?_
      refine Z_imul (pc' := 27) dX4_leastCostFrom_26 rfl ?_
      refine Z_iload_n (pc' := 28) dX4_leastCostFrom_27 rfl rfl ?_
      refine Z_iadd (pc' := 29) dX4_leastCostFrom_28 rfl ?_
      have h6 := G.1
      have G := G.2
      have h7 := G
      refine Z_iaload (pc' := 30) dX4_leastCostFrom_29 rfl (Or.inl dd_23) (Nat.le_of_ble_eq_true rfl) h6 h7 ?_
      refine Z_goto (tgt := 34) dX4_leastCostFrom_30 (by decide) ?_
      exact K _ (by rw [if_neg c5])
  · have P := P.2 c3
    refine Z_iconst (pc' := 12) dX4_leastCostFrom_11 rfl ?_
    exact Z_ireturn dX4_leastCostFrom_12 rfl (Nat.le_refl 0) (Nat.le_refl 0) P
abbrev zX4_findLeastCost_7 (d : Nat) (Q : Int → zMem → Prop) (x1 : Int) (x2 : Int) (x3 : Int) (x4 : Int) (μ : zMem) : Prop := Z SS none mX4_findLeastCost (d + 1) 0 0 (qI Q) 7 [some (.ref 11), some (vi x1), some (vi x2), some (vi x3), some (vi x4), none, none, none] [] μ 0 0
theorem bX4_findLeastCost {d : Nat} {Q : Int → zMem → Prop} {μ : zMem} {x1 : Int} {x2 : Int} (P : zX4_findLeastCost_7 d Q x1 x2 (-1) (x1 + 1) μ) : kX4_findLeastCost (d + 1) x1 x2 μ Q := by
  refine Cl_of rfl (Nat.le_of_ble_eq_true rfl) rfl ?_
  show Z SS none mX4_findLeastCost (d + 1) 0 0 (qI Q) 0 [some (.ref 11), some (vi x1), some (vi x2), none, none, none, none, none] [] μ 0 0
  refine Z_iconst (pc' := 1) dX4_findLeastCost_0 rfl ?_
  refine Z_istore_n (pc' := 2) (lo' := [some (.ref 11), some (vi x1), some (vi x2), some (vi (-1)), none, none, none, none]) dX4_findLeastCost_1 rfl (by decide) rfl ?_
  refine Z_iload_n (pc' := 3) dX4_findLeastCost_2 rfl rfl ?_
  refine Z_iconst (pc' := 4) dX4_findLeastCost_3 rfl ?_
  refine Z_iadd (pc' := 5) dX4_findLeastCost_4 rfl ?_
  refine Z_istore (pc' := 7) (lo' := [some (.ref 11), some (vi x1), some (vi x2), some (vi (-1)), some (vi (x1 + 1)), none, none, none]) dX4_findLeastCost_5 rfl (by decide) rfl ?_
  exact P
theorem bX4_findLeastCost_7 {d : Nat} {Q : Int → zMem → Prop} {μ : zMem} {x1 : Int} {x2 : Int} {x3 : Int} {x4 : Int} (P : (0 ≤ x1) ∧ ((x1 < 14) ∧ ((zIn x4) ∧ ((zIn (gI μ 20 x1)) ∧ (((gI μ 20 x1) < x4 → (Q x3 μ)) ∧ (¬ ((gI μ 20 x1) < x4) → (kX4_slackOf d x1 x4 x2 μ (fun (r7 : Int) (μ6 : zMem) => (zIn r7) ∧ ((r7 = (-1) → (Q x3 μ6)) ∧ (¬ (r7 = (-1)) → (kX4_rowBehind d x1 x4 x2 μ6 (fun (r11 : Int) (μ10 : zMem) => kX4_leastCostFrom d x4 r11 μ10 (fun (r13 : Int) (μ12 : zMem) => ((zIn r13) ∧ ((r13 = (-1) → True) ∧ (¬ (r13 = (-1)) → ((zIn x3) ∧ ((x3 = (-1) → True) ∧ (¬ (x3 = (-1)) → (zIn ((r7 * r7) + r13)))))))) ∧ (zX4_findLeastCost_7 d Q x1 x2 (if r13 = (-1) then x3 else (if x3 = (-1) then ((r7 * r7) + r13) else (if x3 ≤ ((r7 * r7) + r13) then x3 else ((r7 * r7) + r13)))) (x4 + 1) μ12)))))))))))))) : zX4_findLeastCost_7 d Q x1 x2 x3 x4 μ := by
  refine Z_iload (pc' := 9) dX4_findLeastCost_7 rfl rfl ?_
  refine Z_aload_n (pc' := 10) dX4_findLeastCost_9 rfl rfl ?_
  refine Z_getR (q := 16) (pc' := 13) dX4_findLeastCost_10 rfl fX4_21 rfl (Or.inl dd_11) (Or.inl rr_11_1) ?_
  refine Z_getR (q := 20) (pc' := 16) dX4_findLeastCost_13 rfl fX4_121 rfl (Or.inl dd_16) (Or.inl rr_16_4) ?_
  refine Z_iload_n (pc' := 17) dX4_findLeastCost_16 rfl rfl ?_
  have h1 := P.1
  have P := P.2
  have h2 := P.1
  have P := P.2
  refine Z_iaload (pc' := 18) dX4_findLeastCost_17 rfl (Or.inl dd_20) (Nat.le_of_ble_eq_true rfl) h1 h2 ?_
  have h3 := P.1
  have P := P.2
  have h4 := P.1
  have P := P.2
  refine Z_icmp_gt (tgt := 92) (pc' := 21) dX4_findLeastCost_18 (by decide) rfl h3 h4 (fun c5 => ?_) (fun c5 => ?_)
  · have P := P.1 c5
    refine Z_iload_n (pc' := 93) dX4_findLeastCost_92 rfl rfl ?_
    exact Z_ireturn dX4_findLeastCost_93 rfl (Nat.le_refl 0) (Nat.le_refl 0) P
  · have P := P.2 c5
    refine Z_aload_n (pc' := 22) dX4_findLeastCost_21 rfl rfl ?_
    refine Z_iload_n (pc' := 23) dX4_findLeastCost_22 rfl rfl ?_
    refine Z_iload (pc' := 25) dX4_findLeastCost_23 rfl rfl ?_
    refine Z_iload_n (pc' := 26) dX4_findLeastCost_25 rfl rfl ?_
    refine Z_callV0 (M' := mX4_slackOf) (pc' := 29) (st := []) [vi x1, vi x4, vi x2] dX4_findLeastCost_26 rfl vX4_slackOf lX4_124 (Or.inl dd_11) rfl (Nat.le_of_ble_eq_true rfl) (Nat.le_refl 0) (Nat.le_refl 0) ?_
    refine Cl_mono P ?_
    rintro _ μ6 ⟨r7, rfl, P⟩
    show Z SS none mX4_findLeastCost (d + 1) 0 0 (qI Q) 29 [some (.ref 11), some (vi x1), some (vi x2), some (vi x3), some (vi x4), none, none, none] [vi r7] μ6 0 0
    refine Z_istore (pc' := 31) (lo' := [some (.ref 11), some (vi x1), some (vi x2), some (vi x3), some (vi x4), some (vi r7), none, none]) dX4_findLeastCost_29 rfl (by decide) rfl ?_
    refine Z_iload (pc' := 33) dX4_findLeastCost_31 rfl rfl ?_
    refine Z_iconst (pc' := 34) dX4_findLeastCost_33 rfl ?_
    have h8 := P.1
    have P := P.2
    refine Z_icmp_ne (tgt := 40) (pc' := 37) dX4_findLeastCost_34 (by decide) rfl h8 (z_lit rfl) (fun c9 => ?_) (fun c9 => ?_)
    · have P := P.2 c9
      refine Z_aload_n (pc' := 41) dX4_findLeastCost_40 rfl rfl ?_
      refine Z_iload (pc' := 43) dX4_findLeastCost_41 rfl rfl ?_
      refine Z_aload_n (pc' := 44) dX4_findLeastCost_43 rfl rfl ?_
      refine Z_iload_n (pc' := 45) dX4_findLeastCost_44 rfl rfl ?_
      refine Z_iload (pc' := 47) dX4_findLeastCost_45 rfl rfl ?_
      refine Z_iload_n (pc' := 48) dX4_findLeastCost_47 rfl rfl ?_
      refine Z_callV0 (M' := mX4_rowBehind) (pc' := 51) (st := [vi x4, .ref 11]) [vi x1, vi x4, vi x2] dX4_findLeastCost_48 rfl vX4_rowBehind lX4_128 (Or.inl dd_11) rfl (Nat.le_of_ble_eq_true rfl) (Nat.le_refl 0) (Nat.le_refl 0) ?_
      refine Cl_mono P ?_
      rintro _ μ10 ⟨r11, rfl, P⟩
      show Z SS none mX4_findLeastCost (d + 1) 0 0 (qI Q) 51 [some (.ref 11), some (vi x1), some (vi x2), some (vi x3), some (vi x4), some (vi r7), none, none] [vi r11, vi x4, .ref 11] μ10 0 0
      refine Z_callV0 (M' := mX4_leastCostFrom) (pc' := 54) (st := []) [vi x4, vi r11] dX4_findLeastCost_51 rfl vX4_leastCostFrom lX4_110 (Or.inl dd_11) rfl (Nat.le_of_ble_eq_true rfl) (Nat.le_refl 0) (Nat.le_refl 0) ?_
      refine Cl_mono P ?_
      rintro _ μ12 ⟨r13, rfl, P⟩
      show Z SS none mX4_findLeastCost (d + 1) 0 0 (qI Q) 54 [some (.ref 11), some (vi x1), some (vi x2), some (vi x3), some (vi x4), some (vi r7), none, none] [vi r13] μ12 0 0
      refine Z_istore (pc' := 56) (lo' := [some (.ref 11), some (vi x1), some (vi x2), some (vi x3), some (vi x4), some (vi r7), some (vi r13), none]) dX4_findLeastCost_54 rfl (by decide) rfl ?_
      refine Z_iload (pc' := 58) dX4_findLeastCost_56 rfl rfl ?_
      refine Z_iload (pc' := 60) dX4_findLeastCost_58 rfl rfl ?_
      refine Z_imul (pc' := 61) dX4_findLeastCost_60 rfl ?_
      refine Z_iload (pc' := 63) dX4_findLeastCost_61 rfl rfl ?_
      refine Z_iadd (pc' := 64) dX4_findLeastCost_63 rfl ?_
      refine Z_istore (pc' := 66) (lo' := [some (.ref 11), some (vi x1), some (vi x2), some (vi x3), some (vi x4), some (vi r7), some (vi r13), some (vi ((r7 * r7) + r13))]) dX4_findLeastCost_64 rfl (by decide) rfl ?_
      refine Z_iload (pc' := 68) dX4_findLeastCost_66 rfl rfl ?_
      refine Z_iconst (pc' := 69) dX4_findLeastCost_68 rfl ?_
      have K : ∀ t20 : Int, t20 = (if r13 = (-1) then x3 else (if x3 = (-1) then ((r7 * r7) + r13) else (if x3 ≤ ((r7 * r7) + r13) then x3 else ((r7 * r7) + r13)))) → Z SS none mX4_findLeastCost (d + 1) 0 0 (qI Q) 86 [some (.ref 11), some (vi x1), some (vi x2), some (vi t20), some (vi x4), some (vi r7), some (vi r13), some (vi ((r7 * r7) + r13))] [] μ12 0 0 := by
        rintro _ rfl
        have P := P.2
        refine Z_iinc (pc' := 89) (lo' := [some (.ref 11), some (vi x1), some (vi x2), some (vi (if r13 = (-1) then x3 else (if x3 = (-1) then ((r7 * r7) + r13) else (if x3 ≤ ((r7 * r7) + r13) then x3 else ((r7 * r7) + r13))))), some (vi (x4 + 1)), some (vi r7), some (vi r13), some (vi ((r7 * r7) + r13))]) dX4_findLeastCost_86 rfl (by decide) rfl rfl ?_
        refine Z_goto (tgt := 7) dX4_findLeastCost_89 (by decide) ?_
        refine Z_wk [true, true, true, true, true, false, false, false] rfl ?_
        exact P
      have G := P.1
      have h14 := G.1
      have G := G.2
      refine Z_icmp_eq (tgt := 86) (pc' := 72) dX4_findLeastCost_69 (by decide) rfl h14 (z_lit rfl) (fun c15 => ?_) (fun c15 => ?_)
      · exact K _ (by rw [if_pos c15])
      · have G := G.2 c15
        refine Z_iload_n (pc' := 73) dX4_findLeastCost_72 rfl rfl ?_
        refine Z_iconst (pc' := 74) dX4_findLeastCost_73 rfl ?_
        have h16 := G.1
        have G := G.2
        refine Z_icmp_eq (tgt := 83) (pc' := 77) dX4_findLeastCost_74 (by decide) rfl h16 (z_lit rfl) (fun c17 => ?_) (fun c17 => ?_)
        · refine Z_iload (pc' := 85) dX4_findLeastCost_83 rfl rfl ?_
          refine Z_istore_n (pc' := 86) (lo' := [some (.ref 11), some (vi x1), some (vi x2), some (vi ((r7 * r7) + r13)), some (vi x4), some (vi r7), some (vi r13), some (vi ((r7 * r7) + r13))]) dX4_findLeastCost_85 rfl (by decide) rfl ?_
          exact K _ (by rw [if_neg c15, if_pos c17])
        · have G := G.2 c17
          refine Z_iload (pc' := 79) dX4_findLeastCost_77 rfl rfl ?_
          refine Z_iload_n (pc' := 80) dX4_findLeastCost_79 rfl rfl ?_
          have h18 := G
          refine Z_icmp_ge (tgt := 86) (pc' := 83) dX4_findLeastCost_80 (by decide) rfl h18 h16 (fun c19 => ?_) (fun c19 => ?_)
          · exact K _ (by rw [if_neg c15, if_neg c17, if_pos c19])
          · refine Z_iload (pc' := 85) dX4_findLeastCost_83 rfl rfl ?_
            refine Z_istore_n (pc' := 86) (lo' := [some (.ref 11), some (vi x1), some (vi x2), some (vi ((r7 * r7) + r13)), some (vi x4), some (vi r7), some (vi r13), some (vi ((r7 * r7) + r13))]) dX4_findLeastCost_85 rfl (by decide) rfl ?_
            exact K _ (by rw [if_neg c15, if_neg c17, if_neg c19])
    · have P := P.1 c9
      refine Z_goto (tgt := 92) dX4_findLeastCost_37 (by decide) ?_
      refine Z_iload_n (pc' := 93) dX4_findLeastCost_92 rfl rfl ?_
      exact Z_ireturn dX4_findLeastCost_93 rfl (Nat.le_refl 0) (Nat.le_refl 0) P
abbrev zX4_findLeastCosts_10 (d : Nat) (Q : zMem → Prop) (x1 : Int) (μ : zMem) : Prop := Z SS none mX4_findLeastCosts (d + 1) 0 0 (qV Q) 10 [some (.ref 11), some (vi x1), none] [] μ 0 0
abbrev zX4_findLeastCosts_19 (d : Nat) (Q : zMem → Prop) (x1 : Int) (x2 : Int) (μ : zMem) : Prop := Z SS none mX4_findLeastCosts (d + 1) 0 0 (qV Q) 19 [some (.ref 11), some (vi x1), some (vi x2)] [] μ 0 0
theorem bX4_findLeastCosts {d : Nat} {Q : zMem → Prop} {μ : zMem}  (P : zX4_findLeastCosts_10 d Q ((gI μ 16 0) - 1) μ) : kX4_findLeastCosts (d + 1) μ Q := by
  refine Cl_of rfl (Nat.le_of_ble_eq_true rfl) rfl ?_
  show Z SS none mX4_findLeastCosts (d + 1) 0 0 (qV Q) 0 [some (.ref 11), none, none] [] μ 0 0
  refine Z_aload_n (pc' := 1) dX4_findLeastCosts_0 rfl rfl ?_
  refine Z_getR (q := 16) (pc' := 4) dX4_findLeastCosts_1 rfl fX4_21 rfl (Or.inl dd_11) (Or.inl rr_11_1) ?_
  refine Z_getI' (ji := 0) (pc' := 7) dX4_findLeastCosts_4 rfl rfl fX4_86 rfl (Or.inl dd_16) ?_
  refine Z_iconst (pc' := 8) dX4_findLeastCosts_7 rfl ?_
  refine Z_isub (pc' := 9) dX4_findLeastCosts_8 rfl ?_
  refine Z_istore_n (pc' := 10) (lo' := [some (.ref 11), some (vi ((gI μ 16 0) - 1)), none]) dX4_findLeastCosts_9 rfl (by decide) rfl ?_
  exact P
theorem bX4_findLeastCosts_10 {d : Nat} {Q : zMem → Prop} {μ : zMem} {x1 : Int} (P : (zIn x1) ∧ ((x1 < 0 → (Q μ)) ∧ (¬ (x1 < 0) → (zX4_findLeastCosts_19 d Q x1 (gI μ 11 2) μ)))) : zX4_findLeastCosts_10 d Q x1 μ := by
  refine Z_iload_n (pc' := 11) dX4_findLeastCosts_10 rfl rfl ?_
  have h1 := P.1
  have P := P.2
  refine Z_if_lt (tgt := 54) (pc' := 14) dX4_findLeastCosts_11 (by decide) rfl h1 (fun c2 => ?_) (fun c2 => ?_)
  · have P := P.1 c2
    exact Z_return dX4_findLeastCosts_54 rfl (Nat.le_refl 0) (Nat.le_refl 0) P
  · have P := P.2 c2
    refine Z_aload_n (pc' := 15) dX4_findLeastCosts_14 rfl rfl ?_
    refine Z_getI' (ji := 2) (pc' := 18) dX4_findLeastCosts_15 rfl rfl fX4_74 rfl (Or.inl dd_11) ?_
    refine Z_istore_n (pc' := 19) (lo' := [some (.ref 11), some (vi x1), some (vi (gI μ 11 2))]) dX4_findLeastCosts_18 rfl (by decide) rfl ?_
    exact P
theorem bX4_findLeastCosts_19 {d : Nat} {Q : zMem → Prop} {μ : zMem} {x1 : Int} {x2 : Int} (P : (zIn x2) ∧ ((36 ≤ x2 → (zX4_findLeastCosts_10 d Q (x1 + (-1)) μ)) ∧ (¬ (36 ≤ x2) → (kX4_findLeastCost d x1 x2 μ (fun (r4 : Int) (μ3 : zMem) => (0 ≤ ((x1 * 36) + x2)) ∧ ((((x1 * 36) + x2) < 504) ∧ (zX4_findLeastCosts_19 d Q x1 (x2 + 1) (sI μ3 23 ((x1 * 36) + x2) r4)))))))) : zX4_findLeastCosts_19 d Q x1 x2 μ := by
  refine Z_iload_n (pc' := 20) dX4_findLeastCosts_19 rfl rfl ?_
  refine Z_bipush (pc' := 22) dX4_findLeastCosts_20 rfl rfl ?_
  have h1 := P.1
  have P := P.2
  refine Z_icmp_ge (tgt := 48) (pc' := 25) dX4_findLeastCosts_22 (by decide) rfl h1 (z_lit rfl) (fun c2 => ?_) (fun c2 => ?_)
  · have P := P.1 c2
    refine Z_iinc (pc' := 51) (lo' := [some (.ref 11), some (vi (x1 + (-1))), some (vi x2)]) dX4_findLeastCosts_48 rfl (by decide) rfl rfl ?_
    refine Z_goto (tgt := 10) dX4_findLeastCosts_51 (by decide) ?_
    refine Z_wk [true, true, false] rfl ?_
    exact P
  · have P := P.2 c2
    refine Z_aload_n (pc' := 26) dX4_findLeastCosts_25 rfl rfl ?_
    refine Z_getR (q := 23) (pc' := 29) dX4_findLeastCosts_26 rfl fX4_25 rfl (Or.inl dd_11) (Or.inl rr_11_6) ?_
    refine Z_iload_n (pc' := 30) dX4_findLeastCosts_29 rfl rfl ?_
    refine Z_bipush (pc' := 32) dX4_findLeastCosts_30 rfl rfl ?_
    refine Z_imul (pc' := 33) dX4_findLeastCosts_32 rfl ?_
    refine Z_iload_n (pc' := 34) dX4_findLeastCosts_33 rfl rfl ?_
    refine Z_iadd (pc' := 35) dX4_findLeastCosts_34 rfl ?_
    refine Z_aload_n (pc' := 36) dX4_findLeastCosts_35 rfl rfl ?_
    refine Z_iload_n (pc' := 37) dX4_findLeastCosts_36 rfl rfl ?_
    refine Z_iload_n (pc' := 38) dX4_findLeastCosts_37 rfl rfl ?_
    refine Z_callV0 (M' := mX4_findLeastCost) (pc' := 41) (st := [vi ((x1 * 36) + x2), .ref 23]) [vi x1, vi x2] dX4_findLeastCosts_38 rfl vX4_findLeastCost lX4_118 (Or.inl dd_11) rfl (Nat.le_of_ble_eq_true rfl) (Nat.le_refl 0) (Nat.le_refl 0) ?_
    refine Cl_mono P ?_
    rintro _ μ3 ⟨r4, rfl, P⟩
    show Z SS none mX4_findLeastCosts (d + 1) 0 0 (qV Q) 41 [some (.ref 11), some (vi x1), some (vi x2)] [vi r4, vi ((x1 * 36) + x2), .ref 23] μ3 0 0
    have h5 := P.1
    have P := P.2
    have h6 := P.1
    have P := P.2
    refine Z_iastore (pc' := 42) dX4_findLeastCosts_41 rfl (Or.inl dd_23) (Nat.le_of_ble_eq_true rfl) h5 h6 ?_
    refine Z_iinc (pc' := 45) (lo' := [some (.ref 11), some (vi x1), some (vi (x2 + 1))]) dX4_findLeastCosts_42 rfl (by decide) rfl rfl ?_
    refine Z_goto (tgt := 19) dX4_findLeastCosts_45 (by decide) ?_
    exact P
