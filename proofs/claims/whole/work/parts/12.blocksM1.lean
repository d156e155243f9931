abbrev kX8_init (S : zS) (d : Nat) (p0 : Nat) (μ : zMem) (Q : zMem → Prop) : Prop := Cl S mX8_init d 10 4257 [.ref p0] μ (qV Q)
abbrev kX8_in (d : Nat) (x0 : Int) (x1 : Int) (x2 : Int) (μ : zMem) (Q : Int → zMem → Prop) : Prop := Cl SS mX8_in d 0 0 [vi x0, vi x1, vi x2] μ (qI Q)
abbrev kX8_copies (d : Nat) (x1 : Int) (x2 : Int) (μ : zMem) (Q : zMem → Prop) : Prop := Cl SS mX8_copies d 0 0 [.ref 54, vi x1, vi x2] μ (qV Q)
abbrev kX8_records (d : Nat) (μ : zMem) (Q : zMem → Prop) : Prop := Cl SS mX8_records d 0 0 [.ref 54] μ (qV Q)
abbrev kX8_shapeOf (d : Nat) (x1 : Int) (x2 : Int) (μ : zMem) (Q : Int → zMem → Prop) : Prop := Cl SS mX8_shapeOf d 0 0 [.ref 54, vi x1, vi x2] μ (qI Q)
abbrev kX8_size (d : Nat) (x0 : Int) (μ : zMem) (Q : Int → zMem → Prop) : Prop := Cl SS mX8_size d 0 0 [vi x0] μ (qI Q)
abbrev kX8_belongs (d : Nat) (x1 : Int) (x2 : Int) (x3 : Int) (μ : zMem) (Q : Int → zMem → Prop) : Prop := Cl SS mX8_belongs d 0 0 [.ref 54, vi x1, vi x2, vi x3] μ (qI Q)
abbrev kX8_free (d : Nat) (x1 : Int) (x2 : Int) (μ : zMem) (Q : Int → zMem → Prop) : Prop := Cl SS mX8_free d 0 0 [.ref 54, vi x1, vi x2] μ (qI Q)
abbrev kX8_freeCells (d : Nat) (μ : zMem) (Q : Int → zMem → Prop) : Prop := Cl SS mX8_freeCells d 0 0 [.ref 54] μ (qI Q)
abbrev kX8_isShape (d : Nat) (x1 : Int) (μ : zMem) (Q : Int → zMem → Prop) : Prop := Cl SS mX8_isShape d 0 0 [.ref 54, vi x1] μ (qI Q)
abbrev kX8_addShape (d : Nat) (x1 : Int) (x2 : Int) (x3 : Int) (x4 : Int) (x5 : Int) (μ : zMem) (Q : Int → zMem → Prop) : Prop := Cl SS mX8_addShape d 0 0 [.ref 54, vi x1, vi x2, vi x3, vi x4, vi x5] μ (qI Q)
abbrev kX8_moveShape (d : Nat) (x1 : Int) (x2 : Int) (x3 : Int) (μ : zMem) (Q : Int → zMem → Prop) : Prop := Cl SS mX8_moveShape d 0 0 [.ref 54, vi x1, vi x2, vi x3] μ (qI Q)
abbrev kX8_removeShape (d : Nat) (x1 : Int) (μ : zMem) (Q : Int → zMem → Prop) : Prop := Cl SS mX8_removeShape d 0 0 [.ref 54, vi x1] μ (qI Q)
abbrev kX8_isFree (d : Nat) (x1 : Int) (x2 : Int) (μ : zMem) (Q : Int → zMem → Prop) : Prop := Cl SS mX8_isFree d 0 0 [.ref 54, vi x1, vi x2] μ (qI Q)
abbrev kX8_notesSpan (d : Nat) (x1 : Int) (y2 : Int64) (μ : zMem) (Q : zMem → Prop) : Prop := Cl SS mX8_notesSpan d 0 0 [.ref 54, vi x1, .long (y2)] μ (qV Q)
abbrev kX8_findsSpans (d : Nat) (μ : zMem) (Q : zMem → Prop) : Prop := Cl SS mX8_findsSpans d 0 0 [.ref 54] μ (qV Q)
abbrev kX8_span (d : Nat) (x1 : Int) (x2 : Int) (x3 : Int) (μ : zMem) (Q : Int → zMem → Prop) : Prop := Cl SS mX8_span d 0 0 [.ref 54, vi x1, vi x2, vi x3] μ (qI Q)
abbrev kX8_of (d : Nat) (x1 : Int) (x2 : Int) (μ : zMem) (Q : Int → zMem → Prop) : Prop := Cl SS mX8_of d 0 0 [.ref 54, vi x1, vi x2] μ (qI Q)
abbrev kX8_isWord (d : Nat) (x1 : Int) (μ : zMem) (Q : Int → zMem → Prop) : Prop := Cl SS mX8_isWord d 0 0 [.ref 54, vi x1] μ (qI Q)
abbrev kX8_becomes (d : Nat) (x1 : Int) (x2 : Int) (x3 : Int) (x4 : Int) (μ : zMem) (Q : zMem → Prop) : Prop := Cl SS mX8_becomes d 0 0 [.ref 54, vi x1, vi x2, vi x3, vi x4] μ (qV Q)
abbrev kX8_addWord (d : Nat) (x1 : Int) (x2 : Int) (μ : zMem) (Q : Int → zMem → Prop) : Prop := Cl SS mX8_addWord d 0 0 [.ref 54, vi x1, vi x2] μ (qI Q)
abbrev kX8_setWord (d : Nat) (x1 : Int) (x2 : Int) (x3 : Int) (x4 : Int) (μ : zMem) (Q : Int → zMem → Prop) : Prop := Cl SS mX8_setWord d 0 0 [.ref 54, vi x1, vi x2, vi x3, vi x4] μ (qI Q)
abbrev kX8_clearWords (d : Nat) (μ : zMem) (Q : Int → zMem → Prop) : Prop := Cl SS mX8_clearWords d 0 0 [.ref 54] μ (qI Q)
abbrev kX8_setSizes (d : Nat) (x1 : Int) (x2 : Int) (x3 : Int) (x4 : Int) (μ : zMem) (Q : Int → zMem → Prop) : Prop := Cl SS mX8_setSizes d 0 0 [.ref 54, vi x1, vi x2, vi x3, vi x4] μ (qI Q)
abbrev kX8_setLines (d : Nat) (x1 : Int) (x2 : Int) (x3 : Int) (x4 : Int) (μ : zMem) (Q : Int → zMem → Prop) : Prop := Cl SS mX8_setLines d 0 0 [.ref 54, vi x1, vi x2, vi x3, vi x4] μ (qI Q)
abbrev kX8_count (d : Nat) (x1 : Int) (μ : zMem) (Q : Int → zMem → Prop) : Prop := Cl SS mX8_count d 0 0 [.ref 54, vi x1] μ (qI Q)
abbrev kX8_word (d : Nat) (x1 : Int) (x2 : Int) (μ : zMem) (Q : Int → zMem → Prop) : Prop := Cl SS mX8_word d 0 0 [.ref 54, vi x1, vi x2] μ (qI Q)
abbrev kX8_sizeOf (d : Nat) (x1 : Int) (x2 : Int) (μ : zMem) (Q : Int → zMem → Prop) : Prop := Cl SS mX8_sizeOf d 0 0 [.ref 54, vi x1, vi x2] μ (qI Q)
abbrev kX8_isLeast (d : Nat) (x1 : Int) (μ : zMem) (Q : Int → zMem → Prop) : Prop := Cl SS mX8_isLeast d 0 0 [.ref 54, vi x1] μ (qI Q)
abbrev kX8_breaks (d : Nat) (x1 : Int) (x2 : Int) (μ : zMem) (Q : Int → zMem → Prop) : Prop := Cl SS mX8_breaks d 0 0 [.ref 54, vi x1, vi x2] μ (qI Q)
abbrev kX8_least (d : Nat) (x0 : Int) (x1 : Int) (μ : zMem) (Q : Int → zMem → Prop) : Prop := Cl SS mX8_least d 0 0 [vi x0, vi x1] μ (qI Q)
abbrev kX8_places (d : Nat) (x1 : Int) (x2 : Int) (μ : zMem) (Q : zMem → Prop) : Prop := Cl SS mX8_places d 0 0 [.ref 54, vi x1, vi x2] μ (qV Q)
abbrev kX8_hasGap (d : Nat) (x1 : Int) (μ : zMem) (Q : Int → zMem → Prop) : Prop := Cl SS mX8_hasGap d 0 0 [.ref 54, vi x1] μ (qI Q)
abbrev kX8_gapFrom (d : Nat) (x1 : Int) (μ : zMem) (Q : Int → zMem → Prop) : Prop := Cl SS mX8_gapFrom d 0 0 [.ref 54, vi x1] μ (qI Q)
abbrev kX8_touch (d : Nat) (x1 : Int) (x2 : Int) (μ : zMem) (Q : Int → zMem → Prop) : Prop := Cl SS mX8_touch d 0 0 [.ref 54, vi x1, vi x2] μ (qI Q)
abbrev kX8_chainsUp (d : Nat) (x1 : Int) (x2 : Int) (μ : zMem) (Q : zMem → Prop) : Prop := Cl SS mX8_chainsUp d 0 0 [.ref 54, vi x1, vi x2] μ (qV Q)
abbrev kX8_lays (d : Nat) (x1 : Int) (x2 : Int) (μ : zMem) (Q : Int → zMem → Prop) : Prop := Cl SS mX8_lays d 0 0 [.ref 54, vi x1, vi x2] μ (qI Q)
abbrev kX8_chains (d : Nat) (μ : zMem) (Q : zMem → Prop) : Prop := Cl SS mX8_chains d 0 0 [.ref 54] μ (qV Q)
abbrev kX8_finds (d : Nat) (x1 : Int) (μ : zMem) (Q : Int → zMem → Prop) : Prop := Cl SS mX8_finds d 0 0 [.ref 54, vi x1] μ (qI Q)
abbrev kX8_fits (d : Nat) (μ : zMem) (Q : Int → zMem → Prop) : Prop := Cl SS mX8_fits d 0 0 [.ref 54] μ (qI Q)
abbrev kX8_cost (d : Nat) (x1 : Int) (μ : zMem) (Q : Int → zMem → Prop) : Prop := Cl SS mX8_cost d 0 0 [.ref 54, vi x1] μ (qI Q)
abbrev kX8_fit (d : Nat) (μ : zMem) (Q : Int → zMem → Prop) : Prop := Cl SS mX8_fit d 0 0 [.ref 54] μ (qI Q)
abbrev kX8_allowed (d : Nat) (x1 : Int) (μ : zMem) (Q : Int → zMem → Prop) : Prop := Cl SS mX8_allowed d 0 0 [.ref 54, vi x1] μ (qI Q)
abbrev kX8_take (d : Nat) (x1 : Int) (μ : zMem) (Q : Int → zMem → Prop) : Prop := Cl SS mX8_take d 0 0 [.ref 54, vi x1] μ (qI Q)
abbrev kX8_widestStep (d : Nat) (x1 : Int) (μ : zMem) (Q : Int → zMem → Prop) : Prop := Cl SS mX8_widestStep d 0 0 [.ref 54, vi x1] μ (qI Q)
abbrev kX8_tightestLimit (d : Nat) (μ : zMem) (Q : Int → zMem → Prop) : Prop := Cl SS mX8_tightestLimit d 0 0 [.ref 54] μ (qI Q)
abbrev kX8_layout (d : Nat) (x1 : Int) (μ : zMem) (Q : Int → zMem → Prop) : Prop := Cl SS mX8_layout d 0 0 [.ref 54, vi x1] μ (qI Q)
abbrev kX8_line (d : Nat) (x1 : Int) (x2 : Int) (μ : zMem) (Q : Int → zMem → Prop) : Prop := Cl SS mX8_line d 0 0 [.ref 54, vi x1, vi x2] μ (qI Q)
abbrev kX8_placed (d : Nat) (x1 : Int) (x2 : Int) (μ : zMem) (Q : Int → zMem → Prop) : Prop := Cl SS mX8_placed d 0 0 [.ref 54, vi x1, vi x2] μ (qI Q)
abbrev kX8_type (d : Nat) (x1 : Int) (μ : zMem) (Q : Int → zMem → Prop) : Prop := Cl SS mX8_type d 0 0 [.ref 54, vi x1] μ (qI Q)
abbrev kX8_clearText (d : Nat) (μ : zMem) (Q : Int → zMem → Prop) : Prop := Cl SS mX8_clearText d 0 0 [.ref 54] μ (qI Q)
abbrev kX8_isLetter (d : Nat) (μ : zMem) (Q : Int → zMem → Prop) : Prop := Cl SS mX8_isLetter d 0 0 [.ref 54] μ (qI Q)
abbrev kX8_isSign (d : Nat) (x1 : Int) (μ : zMem) (Q : Int → zMem → Prop) : Prop := Cl SS mX8_isSign d 0 0 [.ref 54, vi x1] μ (qI Q)
abbrev kX8_blanks (d : Nat) (μ : zMem) (Q : Int → zMem → Prop) : Prop := Cl SS mX8_blanks d 0 0 [.ref 54] μ (qI Q)
abbrev kX8_readsText (d : Nat) (μ : zMem) (Q : Int → zMem → Prop) : Prop := Cl SS mX8_readsText d 0 0 [.ref 54] μ (qI Q)
abbrev kX8_textFault (d : Nat) (μ : zMem) (Q : Int → zMem → Prop) : Prop := Cl SS mX8_textFault d 0 0 [.ref 54] μ (qI Q)
abbrev kX8_load (d : Nat) (μ : zMem) (Q : Int → zMem → Prop) : Prop := Cl SS mX8_load d 0 0 [.ref 54] μ (qI Q)
abbrev kX8_undo (d : Nat) (μ : zMem) (Q : Int → zMem → Prop) : Prop := Cl SS mX8_undo d 0 0 [.ref 54] μ (qI Q)
abbrev kX8_note (d : Nat) (y1 : Int64) (μ : zMem) (Q : zMem → Prop) : Prop := Cl SS mX8_note d 0 0 [.ref 54, .long (y1)] μ (qV Q)
abbrev kX8_digest (d : Nat) (μ : zMem) (Q : Int64 → zMem → Prop) : Prop := Cl SS mX8_digest d 0 0 [.ref 54] μ (qL Q)
theorem bX8_init {S : zS} {d : Nat} {Q : zMem → Prop} {μ : zMem} {p0 : Nat} (P : (0 + 1 ≤ 10) ∧ ((0 + 1285 ≤ 4257) ∧ (∀ q1 : Nat, q1 = (gD μ).length → (((gD (aD μ 9 1285))[p0]? = some (8, 0)) ∧ ((S.1 p0 0 = none ∨ S.1 p0 0 = some q1) ∧ (((0 + 1) + 1 ≤ 10) ∧ (((0 + 1285) + 1296 ≤ 4257) ∧ (∀ q7 : Nat, q7 = (gD (sR (aD μ 9 1285) p0 0 (some q1))).length → (((gD (aD (sR (aD μ 9 1285) p0 0 (some q1)) 9 1296))[p0]? = some (8, 0)) ∧ ((S.1 p0 2 = none ∨ S.1 p0 2 = some q7) ∧ ((((0 + 1) + 1) + 1 ≤ 10) ∧ ((((0 + 1285) + 1296) + 1296 ≤ 4257) ∧ (∀ q13 : Nat, q13 = (gD (sR (aD (sR (aD μ 9 1285) p0 0 (some q1)) 9 1296) p0 2 (some q7))).length → (((gD (aD (sR (aD (sR (aD μ 9 1285) p0 0 (some q1)) 9 1296) p0 2 (some q7)) 9 1296))[p0]? = some (8, 0)) ∧ ((S.1 p0 3 = none ∨ S.1 p0 3 = some q13) ∧ (((((0 + 1) + 1) + 1) + 1 ≤ 10) ∧ (((((0 + 1285) + 1296) + 1296) + 36 ≤ 4257) ∧ (∀ q19 : Nat, q19 = (gD (sR (aD (sR (aD (sR (aD μ 9 1285) p0 0 (some q1)) 9 1296) p0 2 (some q7)) 9 1296) p0 3 (some q13))).length → (((gD (aD (sR (aD (sR (aD (sR (aD μ 9 1285) p0 0 (some q1)) 9 1296) p0 2 (some q7)) 9 1296) p0 3 (some q13)) 10 36))[p0]? = some (8, 0)) ∧ ((S.1 p0 4 = none ∨ S.1 p0 4 = some q19) ∧ ((((((0 + 1) + 1) + 1) + 1) + 1 ≤ 10) ∧ ((((((0 + 1285) + 1296) + 1296) + 36) + 98 ≤ 4257) ∧ (∀ q25 : Nat, q25 = (gD (sR (aD (sR (aD (sR (aD (sR (aD μ 9 1285) p0 0 (some q1)) 9 1296) p0 2 (some q7)) 9 1296) p0 3 (some q13)) 10 36) p0 4 (some q19))).length → (((gD (aD (sR (aD (sR (aD (sR (aD (sR (aD μ 9 1285) p0 0 (some q1)) 9 1296) p0 2 (some q7)) 9 1296) p0 3 (some q13)) 10 36) p0 4 (some q19)) 9 98))[p0]? = some (8, 0)) ∧ ((S.1 p0 5 = none ∨ S.1 p0 5 = some q25) ∧ (((((((0 + 1) + 1) + 1) + 1) + 1) + 1 ≤ 10) ∧ (((((((0 + 1285) + 1296) + 1296) + 36) + 98) + 70 ≤ 4257) ∧ (∀ q31 : Nat, q31 = (gD (sR (aD (sR (aD (sR (aD (sR (aD (sR (aD μ 9 1285) p0 0 (some q1)) 9 1296) p0 2 (some q7)) 9 1296) p0 3 (some q13)) 10 36) p0 4 (some q19)) 9 98) p0 5 (some q25))).length → (((gD (aD (sR (aD (sR (aD (sR (aD (sR (aD (sR (aD μ 9 1285) p0 0 (some q1)) 9 1296) p0 2 (some q7)) 9 1296) p0 3 (some q13)) 10 36) p0 4 (some q19)) 9 98) p0 5 (some q25)) 9 70))[p0]? = some (8, 0)) ∧ ((S.1 p0 6 = none ∨ S.1 p0 6 = some q31) ∧ ((((((((0 + 1) + 1) + 1) + 1) + 1) + 1) + 1 ≤ 10) ∧ ((((((((0 + 1285) + 1296) + 1296) + 36) + 98) + 70) + 14 ≤ 4257) ∧ (∀ q37 : Nat, q37 = (gD (sR (aD (sR (aD (sR (aD (sR (aD (sR (aD (sR (aD μ 9 1285) p0 0 (some q1)) 9 1296) p0 2 (some q7)) 9 1296) p0 3 (some q13)) 10 36) p0 4 (some q19)) 9 98) p0 5 (some q25)) 9 70) p0 6 (some q31))).length → (((gD (aD (sR (aD (sR (aD (sR (aD (sR (aD (sR (aD (sR (aD μ 9 1285) p0 0 (some q1)) 9 1296) p0 2 (some q7)) 9 1296) p0 3 (some q13)) 10 36) p0 4 (some q19)) 9 98) p0 5 (some q25)) 9 70) p0 6 (some q31)) 9 14))[p0]? = some (8, 0)) ∧ ((S.1 p0 8 = none ∨ S.1 p0 8 = some q37) ∧ (((((((((0 + 1) + 1) + 1) + 1) + 1) + 1) + 1) + 1 ≤ 10) ∧ (((((((((0 + 1285) + 1296) + 1296) + 36) + 98) + 70) + 14) + 14 ≤ 4257) ∧ (∀ q43 : Nat, q43 = (gD (sR (aD (sR (aD (sR (aD (sR (aD (sR (aD (sR (aD (sR (aD μ 9 1285) p0 0 (some q1)) 9 1296) p0 2 (some q7)) 9 1296) p0 3 (some q13)) 10 36) p0 4 (some q19)) 9 98) p0 5 (some q25)) 9 70) p0 6 (some q31)) 9 14) p0 8 (some q37))).length → (((gD (aD (sR (aD (sR (aD (sR (aD (sR (aD (sR (aD (sR (aD (sR (aD μ 9 1285) p0 0 (some q1)) 9 1296) p0 2 (some q7)) 9 1296) p0 3 (some q13)) 10 36) p0 4 (some q19)) 9 98) p0 5 (some q25)) 9 70) p0 6 (some q31)) 9 14) p0 8 (some q37)) 9 14))[p0]? = some (8, 0)) ∧ ((S.1 p0 9 = none ∨ S.1 p0 9 = some q43) ∧ ((((((((((0 + 1) + 1) + 1) + 1) + 1) + 1) + 1) + 1) + 1 ≤ 10) ∧ ((((((((((0 + 1285) + 1296) + 1296) + 36) + 98) + 70) + 14) + 14) + 80 ≤ 4257) ∧ (∀ q49 : Nat, q49 = (gD (sR (aD (sR (aD (sR (aD (sR (aD (sR (aD (sR (aD (sR (aD (sR (aD μ 9 1285) p0 0 (some q1)) 9 1296) p0 2 (some q7)) 9 1296) p0 3 (some q13)) 10 36) p0 4 (some q19)) 9 98) p0 5 (some q25)) 9 70) p0 6 (some q31)) 9 14) p0 8 (some q37)) 9 14) p0 9 (some q43))).length → (((gD (aD (sR (aD (sR (aD (sR (aD (sR (aD (sR (aD (sR (aD (sR (aD (sR (aD μ 9 1285) p0 0 (some q1)) 9 1296) p0 2 (some q7)) 9 1296) p0 3 (some q13)) 10 36) p0 4 (some q19)) 9 98) p0 5 (some q25)) 9 70) p0 6 (some q31)) 9 14) p0 8 (some q37)) 9 14) p0 9 (some q43)) 9 80))[p0]? = some (8, 0)) ∧ ((S.1 p0 14 = none ∨ S.1 p0 14 = some q49) ∧ (((((((((((0 + 1) + 1) + 1) + 1) + 1) + 1) + 1) + 1) + 1) + 1 ≤ 10) ∧ (((((((((((0 + 1285) + 1296) + 1296) + 36) + 98) + 70) + 14) + 14) + 80) + 42 ≤ 4257) ∧ (∀ q55 : Nat, q55 = (gD (sR (aD (sR (aD (sR (aD (sR (aD (sR (aD (sR (aD (sR (aD (sR (aD (sR (aD μ 9 1285) p0 0 (some q1)) 9 1296) p0 2 (some q7)) 9 1296) p0 3 (some q13)) 10 36) p0 4 (some q19)) 9 98) p0 5 (some q25)) 9 70) p0 6 (some q31)) 9 14) p0 8 (some q37)) 9 14) p0 9 (some q43)) 9 80) p0 14 (some q49))).length → (((gD (aD (sR (aD (sR (aD (sR (aD (sR (aD (sR (aD (sR (aD (sR (aD (sR (aD (sR (aD μ 9 1285) p0 0 (some q1)) 9 1296) p0 2 (some q7)) 9 1296) p0 3 (some q13)) 10 36) p0 4 (some q19)) 9 98) p0 5 (some q25)) 9 70) p0 6 (some q31)) 9 14) p0 8 (some q37)) 9 14) p0 9 (some q43)) 9 80) p0 14 (some q49)) 9 42))[p0]? = some (8, 0)) ∧ ((S.1 p0 17 = none ∨ S.1 p0 17 = some q55) ∧ (((gD (sR (aD (sR (aD (sR (aD (sR (aD (sR (aD (sR (aD (sR (aD (sR (aD (sR (aD (sR (aD μ 9 1285) p0 0 (some q1)) 9 1296) p0 2 (some q7)) 9 1296) p0 3 (some q13)) 10 36) p0 4 (some q19)) 9 98) p0 5 (some q25)) 9 70) p0 6 (some q31)) 9 14) p0 8 (some q37)) 9 14) p0 9 (some q43)) 9 80) p0 14 (some q49)) 9 42) p0 17 (some q55)))[p0]? = some (8, 0)) ∧ (∃ q62 : Nat, (gR (sR (aD (sR (aD (sR (aD (sR (aD (sR (aD (sR (aD (sR (aD (sR (aD (sR (aD (sR (aD μ 9 1285) p0 0 (some q1)) 9 1296) p0 2 (some q7)) 9 1296) p0 3 (some q13)) 10 36) p0 4 (some q19)) 9 98) p0 5 (some q25)) 9 70) p0 6 (some q31)) 9 14) p0 8 (some q37)) 9 14) p0 9 (some q43)) 9 80) p0 14 (some q49)) 9 42) p0 17 (some q55)) p0 0 = some q62) ∧ ((zA (sR (aD (sR (aD (sR (aD (sR (aD (sR (aD (sR (aD (sR (aD (sR (aD (sR (aD (sR (aD μ 9 1285) p0 0 (some q1)) 9 1296) p0 2 (some q7)) 9 1296) p0 3 (some q13)) 10 36) p0 4 (some q19)) 9 98) p0 5 (some q25)) 9 70) p0 6 (some q31)) 9 14) p0 8 (some q37)) 9 14) p0 9 (some q43)) 9 80) p0 14 (some q49)) 9 42) p0 17 (some q55)) q62 74) ∧ (∃ q65 : Nat, (gR (sR (aD (sR (aD (sR (aD (sR (aD (sR (aD (sR (aD (sR (aD (sR (aD (sR (aD (sR (aD μ 9 1285) p0 0 (some q1)) 9 1296) p0 2 (some q7)) 9 1296) p0 3 (some q13)) 10 36) p0 4 (some q19)) 9 98) p0 5 (some q25)) 9 70) p0 6 (some q31)) 9 14) p0 8 (some q37)) 9 14) p0 9 (some q43)) 9 80) p0 14 (some q49)) 9 42) p0 17 (some q55)) p0 0 = some q65) ∧ ((zA (sR (aD (sR (aD (sR (aD (sR (aD (sR (aD (sR (aD (sR (aD (sR (aD (sR (aD (sR (aD μ 9 1285) p0 0 (some q1)) 9 1296) p0 2 (some q7)) 9 1296) p0 3 (some q13)) 10 36) p0 4 (some q19)) 9 98) p0 5 (some q25)) 9 70) p0 6 (some q31)) 9 14) p0 8 (some q37)) 9 14) p0 9 (some q43)) 9 80) p0 14 (some q49)) 9 42) p0 17 (some q55)) q65 75) ∧ (∃ q68 : Nat, (gR (sR (aD (sR (aD (sR (aD (sR (aD (sR (aD (sR (aD (sR (aD (sR (aD (sR (aD (sR (aD μ 9 1285) p0 0 (some q1)) 9 1296) p0 2 (some q7)) 9 1296) p0 3 (some q13)) 10 36) p0 4 (some q19)) 9 98) p0 5 (some q25)) 9 70) p0 6 (some q31)) 9 14) p0 8 (some q37)) 9 14) p0 9 (some q43)) 9 80) p0 14 (some q49)) 9 42) p0 17 (some q55)) p0 0 = some q68) ∧ ((zA (sR (aD (sR (aD (sR (aD (sR (aD (sR (aD (sR (aD (sR (aD (sR (aD (sR (aD (sR (aD μ 9 1285) p0 0 (some q1)) 9 1296) p0 2 (some q7)) 9 1296) p0 3 (some q13)) 10 36) p0 4 (some q19)) 9 98) p0 5 (some q25)) 9 70) p0 6 (some q31)) 9 14) p0 8 (some q37)) 9 14) p0 9 (some q43)) 9 80) p0 14 (some q49)) 9 42) p0 17 (some q55)) q68 76) ∧ (∃ q71 : Nat, (gR (sR (aD (sR (aD (sR (aD (sR (aD (sR (aD (sR (aD (sR (aD (sR (aD (sR (aD (sR (aD μ 9 1285) p0 0 (some q1)) 9 1296) p0 2 (some q7)) 9 1296) p0 3 (some q13)) 10 36) p0 4 (some q19)) 9 98) p0 5 (some q25)) 9 70) p0 6 (some q31)) 9 14) p0 8 (some q37)) 9 14) p0 9 (some q43)) 9 80) p0 14 (some q49)) 9 42) p0 17 (some q55)) p0 0 = some q71) ∧ ((zA (sR (aD (sR (aD (sR (aD (sR (aD (sR (aD (sR (aD (sR (aD (sR (aD (sR (aD (sR (aD μ 9 1285) p0 0 (some q1)) 9 1296) p0 2 (some q7)) 9 1296) p0 3 (some q13)) 10 36) p0 4 (some q19)) 9 98) p0 5 (some q25)) 9 70) p0 6 (some q31)) 9 14) p0 8 (some q37)) 9 14) p0 9 (some q43)) 9 80) p0 14 (some q49)) 9 42) p0 17 (some q55)) q71 77) ∧ (∃ q74 : Nat, (gR (sR (aD (sR (aD (sR (aD (sR (aD (sR (aD (sR (aD (sR (aD (sR (aD (sR (aD (sR (aD μ 9 1285) p0 0 (some q1)) 9 1296) p0 2 (some q7)) 9 1296) p0 3 (some q13)) 10 36) p0 4 (some q19)) 9 98) p0 5 (some q25)) 9 70) p0 6 (some q31)) 9 14) p0 8 (some q37)) 9 14) p0 9 (some q43)) 9 80) p0 14 (some q49)) 9 42) p0 17 (some q55)) p0 0 = some q74) ∧ ((zA (sR (aD (sR (aD (sR (aD (sR (aD (sR (aD (sR (aD (sR (aD (sR (aD (sR (aD (sR (aD μ 9 1285) p0 0 (some q1)) 9 1296) p0 2 (some q7)) 9 1296) p0 3 (some q13)) 10 36) p0 4 (some q19)) 9 98) p0 5 (some q25)) 9 70) p0 6 (some q31)) 9 14) p0 8 (some q37)) 9 14) p0 9 (some q43)) 9 80) p0 14 (some q49)) 9 42) p0 17 (some q55)) q74 79) ∧ (∃ q77 : Nat, (gR (sR (aD (sR (aD (sR (aD (sR (aD (sR (aD (sR (aD (sR (aD (sR (aD (sR (aD (sR (aD μ 9 1285) p0 0 (some q1)) 9 1296) p0 2 (some q7)) 9 1296) p0 3 (some q13)) 10 36) p0 4 (some q19)) 9 98) p0 5 (some q25)) 9 70) p0 6 (some q31)) 9 14) p0 8 (some q37)) 9 14) p0 9 (some q43)) 9 80) p0 14 (some q49)) 9 42) p0 17 (some q55)) p0 0 = some q77) ∧ ((zA (sR (aD (sR (aD (sR (aD (sR (aD (sR (aD (sR (aD (sR (aD (sR (aD (sR (aD (sR (aD μ 9 1285) p0 0 (some q1)) 9 1296) p0 2 (some q7)) 9 1296) p0 3 (some q13)) 10 36) p0 4 (some q19)) 9 98) p0 5 (some q25)) 9 70) p0 6 (some q31)) 9 14) p0 8 (some q37)) 9 14) p0 9 (some q43)) 9 80) p0 14 (some q49)) 9 42) p0 17 (some q55)) q77 80) ∧ (∃ q80 : Nat, (gR (sR (aD (sR (aD (sR (aD (sR (aD (sR (aD (sR (aD (sR (aD (sR (aD (sR (aD (sR (aD μ 9 1285) p0 0 (some q1)) 9 1296) p0 2 (some q7)) 9 1296) p0 3 (some q13)) 10 36) p0 4 (some q19)) 9 98) p0 5 (some q25)) 9 70) p0 6 (some q31)) 9 14) p0 8 (some q37)) 9 14) p0 9 (some q43)) 9 80) p0 14 (some q49)) 9 42) p0 17 (some q55)) p0 0 = some q80) ∧ ((zA (sR (aD (sR (aD (sR (aD (sR (aD (sR (aD (sR (aD (sR (aD (sR (aD (sR (aD (sR (aD μ 9 1285) p0 0 (some q1)) 9 1296) p0 2 (some q7)) 9 1296) p0 3 (some q13)) 10 36) p0 4 (some q19)) 9 98) p0 5 (some q25)) 9 70) p0 6 (some q31)) 9 14) p0 8 (some q37)) 9 14) p0 9 (some q43)) 9 80) p0 14 (some q49)) 9 42) p0 17 (some q55)) q80 81) ∧ ((((((((((((0 + 1) + 1) + 1) + 1) + 1) + 1) + 1) + 1) + 1) + 1) ≤ 10) ∧ ((((((((((((0 + 1285) + 1296) + 1296) + 36) + 98) + 70) + 14) + 14) + 80) + 42) ≤ 4257) ∧ (Q (sI (sI (sI (sI (sI (sI (sI (sR (aD (sR (aD (sR (aD (sR (aD (sR (aD (sR (aD (sR (aD (sR (aD (sR (aD (sR (aD μ 9 1285) p0 0 (some q1)) 9 1296) p0 2 (some q7)) 9 1296) p0 3 (some q13)) 10 36) p0 4 (some q19)) 9 98) p0 5 (some q25)) 9 70) p0 6 (some q31)) 9 14) p0 8 (some q37)) 9 14) p0 9 (some q43)) 9 80) p0 14 (some q49)) 9 42) p0 17 (some q55)) q62 74 1) q65 75 1) q68 76 1) q71 77 1) q74 79 1) q77 80 1) q80 81 9))))))))))))))))))))))))))))))))))))))))))))))))))))))))))))))))))))) : kX8_init S (d + 1) p0 μ Q := by
  refine Cl_of rfl (Nat.le_of_ble_eq_true rfl) rfl ?_
  show Z S none mX8_init (d + 1) 10 4257 (qV Q) 0 [some (.ref p0)] [] μ 0 0
  refine Z_aload_n (pc' := 1) dX8_init_0 rfl rfl ?_
  refine Z_objInit (pc' := 4) dX8_init_1 rfl lX8_1 l_oi l_oc (Nat.le_of_ble_eq_true rfl) ?_
  refine Z_aload_n (pc' := 5) dX8_init_4 rfl rfl ?_
  refine Z_sipush (pc' := 8) dX8_init_5 rfl rfl ?_
  obtain ⟨q1, h2⟩ : ∃ q : Nat, q = (gD μ).length := ⟨_, rfl⟩
  have h3 := P.1
  have P := P.2
  have h4 := P.1
  have P := P.2
  refine Z_newI (pc' := 10) dX8_init_8 rfl (by decide) (by decide) h3 h4 l_ai ?_
  show Z S none mX8_init (d + 1) 10 4257 (qV Q) 10 _ _ (aD μ 9 1285) (0 + 1) (0 + 1285)
  rw [← h2]
  have P := P q1 h2
  have h5 := P.1
  have P := P.2
  have h6 := P.1
  have P := P.2
  refine Z_putR' (ji := 0) (pc' := 13) dX8_init_10 rfl rfl fX8_7 (Or.inr ⟨rfl, rfl⟩) rfl (Or.inr h5) h6 ?_
  refine Z_aload_n (pc' := 14) dX8_init_13 rfl rfl ?_
  refine Z_sipush (pc' := 17) dX8_init_14 rfl rfl ?_
  obtain ⟨q7, h8⟩ : ∃ q : Nat, q = (gD (sR (aD μ 9 1285) p0 0 (some q1))).length := ⟨_, rfl⟩
  have h9 := P.1
  have P := P.2
  have h10 := P.1
  have P := P.2
  refine Z_newI (pc' := 19) dX8_init_17 rfl (by decide) (by decide) h9 h10 l_ai ?_
  show Z S none mX8_init (d + 1) 10 4257 (qV Q) 19 _ _ (aD (sR (aD μ 9 1285) p0 0 (some q1)) 9 1296) ((0 + 1) + 1) ((0 + 1285) + 1296)
  rw [← h8]
  have P := P q7 h8
  have h11 := P.1
  have P := P.2
  have h12 := P.1
  have P := P.2
  refine Z_putR' (ji := 2) (pc' := 22) dX8_init_19 rfl rfl fX8_13 (Or.inr ⟨rfl, rfl⟩) rfl (Or.inr h11) h12 ?_
  refine Z_aload_n (pc' := 23) dX8_init_22 rfl rfl ?_
  refine Z_sipush (pc' := 26) dX8_init_23 rfl rfl ?_
  obtain ⟨q13, h14⟩ : ∃ q : Nat, q = (gD (sR (aD (sR (aD μ 9 1285) p0 0 (some q1)) 9 1296) p0 2 (some q7))).length := ⟨_, rfl⟩
  have h15 := P.1
  have P := P.2
  have h16 := P.1
  have P := P.2
  refine Z_newI (pc' := 28) dX8_init_26 rfl (by decide) (by decide) h15 h16 l_ai ?_
  show Z S none mX8_init (d + 1) 10 4257 (qV Q) 28 _ _ (aD (sR (aD (sR (aD μ 9 1285) p0 0 (some q1)) 9 1296) p0 2 (some q7)) 9 1296) (((0 + 1) + 1) + 1) (((0 + 1285) + 1296) + 1296)
  rw [← h14]
  have P := P q13 h14
  have h17 := P.1
  have P := P.2
  have h18 := P.1
  have P := P.2
  refine Z_putR' (ji := 3) (pc' := 31) dX8_init_28 rfl rfl fX8_16 (Or.inr ⟨rfl, rfl⟩) rfl (Or.inr h17) h18 ?_
  refine Z_aload_n (pc' := 32) dX8_init_31 rfl rfl ?_
  refine Z_bipush (pc' := 34) dX8_init_32 rfl rfl ?_
  obtain ⟨q19, h20⟩ : ∃ q : Nat, q = (gD (sR (aD (sR (aD (sR (aD μ 9 1285) p0 0 (some q1)) 9 1296) p0 2 (some q7)) 9 1296) p0 3 (some q13))).length := ⟨_, rfl⟩
  have h21 := P.1
  have P := P.2
  have h22 := P.1
  have P := P.2
  refine Z_newJ (pc' := 36) dX8_init_34 rfl (by decide) (by decide) h21 h22 l_al ?_
  show Z S none mX8_init (d + 1) 10 4257 (qV Q) 36 _ _ (aD (sR (aD (sR (aD (sR (aD μ 9 1285) p0 0 (some q1)) 9 1296) p0 2 (some q7)) 9 1296) p0 3 (some q13)) 10 36) ((((0 + 1) + 1) + 1) + 1) ((((0 + 1285) + 1296) + 1296) + 36)
  rw [← h20]
  have P := P q19 h20
  have h23 := P.1
  have P := P.2
  have h24 := P.1
  have P := P.2
  refine Z_putR' (ji := 4) (pc' := 39) dX8_init_36 rfl rfl fX8_19 (Or.inr ⟨rfl, rfl⟩) rfl (Or.inr h23) h24 ?_
  refine Z_aload_n (pc' := 40) dX8_init_39 rfl rfl ?_
  refine Z_bipush (pc' := 42) dX8_init_40 rfl rfl ?_
  obtain ⟨q25, h26⟩ : ∃ q : Nat, q = (gD (sR (aD (sR (aD (sR (aD (sR (aD μ 9 1285) p0 0 (some q1)) 9 1296) p0 2 (some q7)) 9 1296) p0 3 (some q13)) 10 36) p0 4 (some q19))).length := ⟨_, rfl⟩
  have h27 := P.1
  have P := P.2
  have h28 := P.1
  have P := P.2
  refine Z_newI (pc' := 44) dX8_init_42 rfl (by decide) (by decide) h27 h28 l_ai ?_
  show Z S none mX8_init (d + 1) 10 4257 (qV Q) 44 _ _ (aD (sR (aD (sR (aD (sR (aD (sR (aD μ 9 1285) p0 0 (some q1)) 9 1296) p0 2 (some q7)) 9 1296) p0 3 (some q13)) 10 36) p0 4 (some q19)) 9 98) (((((0 + 1) + 1) + 1) + 1) + 1) (((((0 + 1285) + 1296) + 1296) + 36) + 98)
  rw [← h26]
  have P := P q25 h26
  have h29 := P.1
  have P := P.2
  have h30 := P.1
  have P := P.2
  refine Z_putR' (ji := 5) (pc' := 47) dX8_init_44 rfl rfl fX8_23 (Or.inr ⟨rfl, rfl⟩) rfl (Or.inr h29) h30 ?_
  refine Z_aload_n (pc' := 48) dX8_init_47 rfl rfl ?_
  refine Z_bipush (pc' := 50) dX8_init_48 rfl rfl ?_
  obtain ⟨q31, h32⟩ : ∃ q : Nat, q = (gD (sR (aD (sR (aD (sR (aD (sR (aD (sR (aD μ 9 1285) p0 0 (some q1)) 9 1296) p0 2 (some q7)) 9 1296) p0 3 (some q13)) 10 36) p0 4 (some q19)) 9 98) p0 5 (some q25))).length := ⟨_, rfl⟩
  have h33 := P.1
  have P := P.2
  have h34 := P.1
  have P := P.2
  refine Z_newI (pc' := 52) dX8_init_50 rfl (by decide) (by decide) h33 h34 l_ai ?_
  show Z S none mX8_init (d + 1) 10 4257 (qV Q) 52 _ _ (aD (sR (aD (sR (aD (sR (aD (sR (aD (sR (aD μ 9 1285) p0 0 (some q1)) 9 1296) p0 2 (some q7)) 9 1296) p0 3 (some q13)) 10 36) p0 4 (some q19)) 9 98) p0 5 (some q25)) 9 70) ((((((0 + 1) + 1) + 1) + 1) + 1) + 1) ((((((0 + 1285) + 1296) + 1296) + 36) + 98) + 70)
  rw [← h32]
  have P := P q31 h32
  have h35 := P.1
  have P := P.2
  have h36 := P.1
  have P := P.2
  refine Z_putR' (ji := 6) (pc' := 55) dX8_init_52 rfl rfl fX8_26 (Or.inr ⟨rfl, rfl⟩) rfl (Or.inr h35) h36 ?_
  refine Z_aload_n (pc' := 56) dX8_init_55 rfl rfl ?_
  refine Z_bipush (pc' := 58) dX8_init_56 rfl rfl ?_
  obtain ⟨q37, h38⟩ : ∃ q : Nat, q = (gD (sR (aD (sR (aD (sR (aD (sR (aD (sR (aD (sR (aD μ 9 1285) p0 0 (some q1)) 9 1296) p0 2 (some q7)) 9 1296) p0 3 (some q13)) 10 36) p0 4 (some q19)) 9 98) p0 5 (some q25)) 9 70) p0 6 (some q31))).length := ⟨_, rfl⟩
  have h39 := P.1
  have P := P.2
  have h40 := P.1
  have P := P.2
  refine Z_newI (pc' := 60) dX8_init_58 rfl (by decide) (by decide) h39 h40 l_ai ?_
  show Z S none mX8_init (d + 1) 10 4257 (qV Q) 60 _ _ (aD (sR (aD (sR (aD (sR (aD (sR (aD (sR (aD (sR (aD μ 9 1285) p0 0 (some q1)) 9 1296) p0 2 (some q7)) 9 1296) p0 3 (some q13)) 10 36) p0 4 (some q19)) 9 98) p0 5 (some q25)) 9 70) p0 6 (some q31)) 9 14) (((((((0 + 1) + 1) + 1) + 1) + 1) + 1) + 1) (((((((0 + 1285) + 1296) + 1296) + 36) + 98) + 70) + 14)
  rw [← h38]
  have P := P q37 h38
  have h41 := P.1
  have P := P.2
  have h42 := P.1
  have P := P.2
  refine Z_putR' (ji := 8) (pc' := 63) dX8_init_60 rfl rfl fX8_29 (Or.inr ⟨rfl, rfl⟩) rfl (Or.inr h41) h42 ?_
  refine Z_aload_n (pc' := 64) dX8_init_63 rfl rfl ?_
  refine Z_bipush (pc' := 66) dX8_init_64 rfl rfl ?_
  obtain ⟨q43, h44⟩ : ∃ q : Nat, q = (gD (sR (aD (sR (aD (sR (aD (sR (aD (sR (aD (sR (aD (sR (aD μ 9 1285) p0 0 (some q1)) 9 1296) p0 2 (some q7)) 9 1296) p0 3 (some q13)) 10 36) p0 4 (some q19)) 9 98) p0 5 (some q25)) 9 70) p0 6 (some q31)) 9 14) p0 8 (some q37))).length := ⟨_, rfl⟩
  have h45 := P.1
  have P := P.2
  have h46 := P.1
  have P := P.2
  refine Z_newI (pc' := 68) dX8_init_66 rfl (by decide) (by decide) h45 h46 l_ai ?_
  show Z S none mX8_init (d + 1) 10 4257 (qV Q) 68 _ _ (aD (sR (aD (sR (aD (sR (aD (sR (aD (sR (aD (sR (aD (sR (aD μ 9 1285) p0 0 (some q1)) 9 1296) p0 2 (some q7)) 9 1296) p0 3 (some q13)) 10 36) p0 4 (some q19)) 9 98) p0 5 (some q25)) 9 70) p0 6 (some q31)) 9 14) p0 8 (some q37)) 9 14) ((((((((0 + 1) + 1) + 1) + 1) + 1) + 1) + 1) + 1) ((((((((0 + 1285) + 1296) + 1296) + 36) + 98) + 70) + 14) + 14)
  rw [← h44]
  have P := P q43 h44
  have h47 := P.1
  have P := P.2
  have h48 := P.1
  have P := P.2
  refine Z_putR' (ji := 9) (pc' := 71) dX8_init_68 rfl rfl fX8_32 (Or.inr ⟨rfl, rfl⟩) rfl (Or.inr h47) h48 ?_
  refine Z_aload_n (pc' := 72) dX8_init_71 rfl rfl ?_
  refine Z_bipush (pc' := 74) dX8_init_72 rfl rfl ?_
  obtain ⟨q49, h50⟩ : ∃ q : Nat, q = (gD (sR (aD (sR (aD (sR (aD (sR (aD (sR (aD (sR (aD (sR (aD (sR (aD μ 9 1285) p0 0 (some q1)) 9 1296) p0 2 (some q7)) 9 1296) p0 3 (some q13)) 10 36) p0 4 (some q19)) 9 98) p0 5 (some q25)) 9 70) p0 6 (some q31)) 9 14) p0 8 (some q37)) 9 14) p0 9 (some q43))).length := ⟨_, rfl⟩
  have h51 := P.1
  have P := P.2
  have h52 := P.1
  have P := P.2
  refine Z_newI (pc' := 76) dX8_init_74 rfl (by decide) (by decide) h51 h52 l_ai ?_
  show Z S none mX8_init (d + 1) 10 4257 (qV Q) 76 _ _ (aD (sR (aD (sR (aD (sR (aD (sR (aD (sR (aD (sR (aD (sR (aD (sR (aD μ 9 1285) p0 0 (some q1)) 9 1296) p0 2 (some q7)) 9 1296) p0 3 (some q13)) 10 36) p0 4 (some q19)) 9 98) p0 5 (some q25)) 9 70) p0 6 (some q31)) 9 14) p0 8 (some q37)) 9 14) p0 9 (some q43)) 9 80) (((((((((0 + 1) + 1) + 1) + 1) + 1) + 1) + 1) + 1) + 1) (((((((((0 + 1285) + 1296) + 1296) + 36) + 98) + 70) + 14) + 14) + 80)
  rw [← h50]
  have P := P q49 h50
  have h53 := P.1
  have P := P.2
  have h54 := P.1
  have P := P.2
  refine Z_putR' (ji := 14) (pc' := 79) dX8_init_76 rfl rfl fX8_35 (Or.inr ⟨rfl, rfl⟩) rfl (Or.inr h53) h54 ?_
  refine Z_aload_n (pc' := 80) dX8_init_79 rfl rfl ?_
  refine Z_bipush (pc' := 82) dX8_init_80 rfl rfl ?_
  obtain ⟨q55, h56⟩ : ∃ q : Nat, q = (gD (sR (aD (sR (aD (sR (aD (sR (aD (sR (aD (sR (aD (sR (aD (sR (aD (sR (aD μ 9 1285) p0 0 (some q1)) 9 1296) p0 2 (some q7)) 9 1296) p0 3 (some q13)) 10 36) p0 4 (some q19)) 9 98) p0 5 (some q25)) 9 70) p0 6 (some q31)) 9 14) p0 8 (some q37)) 9 14) p0 9 (some q43)) 9 80) p0 14 (some q49))).length := ⟨_, rfl⟩
  have h57 := P.1
  have P := P.2
  have h58 := P.1
  have P := P.2
  refine Z_newI (pc' := 84) dX8_init_82 rfl (by decide) (by decide) h57 h58 l_ai ?_
  show Z S none mX8_init (d + 1) 10 4257 (qV Q) 84 _ _ (aD (sR (aD (sR (aD (sR (aD (sR (aD (sR (aD (sR (aD (sR (aD (sR (aD (sR (aD μ 9 1285) p0 0 (some q1)) 9 1296) p0 2 (some q7)) 9 1296) p0 3 (some q13)) 10 36) p0 4 (some q19)) 9 98) p0 5 (some q25)) 9 70) p0 6 (some q31)) 9 14) p0 8 (some q37)) 9 14) p0 9 (some q43)) 9 80) p0 14 (some q49)) 9 42) ((((((((((0 + 1) + 1) + 1) + 1) + 1) + 1) + 1) + 1) + 1) + 1) ((((((((((0 + 1285) + 1296) + 1296) + 36) + 98) + 70) + 14) + 14) + 80) + 42)
  rw [← h56]
  have P := P q55 h56
  have h59 := P.1
  have P := P.2
  have h60 := P.1
  have P := P.2
  refine Z_putR' (ji := 17) (pc' := 87) dX8_init_84 rfl rfl fX8_38 (Or.inr ⟨rfl, rfl⟩) rfl (Or.inr h59) h60 ?_
  refine Z_aload_n (pc' := 88) dX8_init_87 rfl rfl ?_
  have h61 := P.1
  have P := P.2
  obtain ⟨q62, h63, P⟩ := P
  refine Z_getR (q := q62) (pc' := 91) dX8_init_88 rfl fX8_7 rfl (Or.inr h61) (Or.inr h63) ?_
  refine Z_bipush (pc' := 93) dX8_init_91 rfl rfl ?_
  refine Z_iconst (pc' := 94) dX8_init_93 rfl ?_
  have h64 := P.1
  have P := P.2
  refine Z_iastoreA (pc' := 95) dX8_init_94 rfl h64 ?_
  refine Z_aload_n (pc' := 96) dX8_init_95 rfl rfl ?_
  obtain ⟨q65, h66, P⟩ := P
  refine Z_getR (q := q65) (pc' := 99) dX8_init_96 rfl fX8_7 rfl (Or.inr h61) (Or.inr h66) ?_
  refine Z_bipush (pc' := 101) dX8_init_99 rfl rfl ?_
  refine Z_iconst (pc' := 102) dX8_init_101 rfl ?_
  have h67 := P.1
  have P := P.2
  refine Z_iastoreA (pc' := 103) dX8_init_102 rfl h67 ?_
  refine Z_aload_n (pc' := 104) dX8_init_103 rfl rfl ?_
  obtain ⟨q68, h69, P⟩ := P
  refine Z_getR (q := q68) (pc' := 107) dX8_init_104 rfl fX8_7 rfl (Or.inr h61) (Or.inr h69) ?_
  refine Z_bipush (pc' := 109) dX8_init_107 rfl rfl ?_
  refine Z_iconst (pc' := 110) dX8_init_109 rfl ?_
  have h70 := P.1
  have P := P.2
  refine Z_iastoreA (pc' := 111) dX8_init_110 rfl h70 ?_
  refine Z_aload_n (pc' := 112) dX8_init_111 rfl rfl ?_
  obtain ⟨q71, h72, P⟩ := P
  refine Z_getR (q := q71) (pc' := 115) dX8_init_112 rfl fX8_7 rfl (Or.inr h61) (Or.inr h72) ?_
  refine Z_bipush (pc' := 117) dX8_init_115 rfl rfl ?_
  refine Z_iconst (pc' := 118) dX8_init_117 rfl ?_
  have h73 := P.1
  have P := P.2
  refine Z_iastoreA (pc' := 119) dX8_init_118 rfl h73 ?_
  refine Z_aload_n (pc' := 120) dX8_init_119 rfl rfl ?_
  obtain ⟨q74, h75, P⟩ := P
  refine Z_getR (q := q74) (pc' := 123) dX8_init_120 rfl fX8_7 rfl (Or.inr h61) (Or.inr h75) ?_
  refine Z_bipush (pc' := 125) dX8_init_123 rfl rfl ?_
  refine Z_iconst (pc' := 126) dX8_init_125 rfl ?_
  have h76 := P.1
  have P := P.2
  refine Z_iastoreA (pc' := 127) dX8_init_126 rfl h76 ?_
  refine Z_aload_n (pc' := 128) dX8_init_127 rfl rfl ?_
  obtain ⟨q77, h78, P⟩ := P
  refine Z_getR (q := q77) (pc' := 131) dX8_init_128 rfl fX8_7 rfl (Or.inr h61) (Or.inr h78) ?_
  refine Z_bipush (pc' := 133) dX8_init_131 rfl rfl ?_
  refine Z_iconst (pc' := 134) dX8_init_133 rfl ?_
  have h79 := P.1
  have P := P.2
  refine Z_iastoreA (pc' := 135) dX8_init_134 rfl h79 ?_
  refine Z_aload_n (pc' := 136) dX8_init_135 rfl rfl ?_
  obtain ⟨q80, h81, P⟩ := P
  refine Z_getR (q := q80) (pc' := 139) dX8_init_136 rfl fX8_7 rfl (Or.inr h61) (Or.inr h81) ?_
  refine Z_bipush (pc' := 141) dX8_init_139 rfl rfl ?_
  refine Z_bipush (pc' := 143) dX8_init_141 rfl rfl ?_
  have h82 := P.1
  have P := P.2
  refine Z_iastoreA (pc' := 144) dX8_init_143 rfl h82 ?_
  have h83 := P.1
  have P := P.2
  have h84 := P.1
  have P := P.2
  exact Z_return dX8_init_144 rfl h83 h84 P
theorem bX8_in {d : Nat} {Q : Int → zMem → Prop} {μ : zMem} {x0 : Int} {x1 : Int} {x2 : Int} (P : ((zIn x0) ∧ ((zIn x1) ∧ ((x0 < x1 → True) ∧ (¬ (x0 < x1) → (zIn x2))))) ∧ (Q (if x0 < x1 then 0 else (if x2 < x0 then 0 else 1)) μ)) : kX8_in d x0 x1 x2 μ Q := by
  refine Cl_of rfl (Nat.le_of_ble_eq_true rfl) rfl ?_
  show Z SS none mX8_in d 0 0 (qI Q) 0 [some (vi x0), some (vi x1), some (vi x2)] [] μ 0 0
  refine Z_iload_n (pc' := 1) dX8_in_0 rfl rfl ?_
  refine Z_iload_n (pc' := 2) dX8_in_1 rfl rfl ?_
  have K : ∀ t6 : Int, t6 = (if x0 < x1 then 0 else (if x2 < x0 then 0 else 1)) → Z SS none mX8_in d 0 0 (qI Q) 15 [some (vi x0), some (vi x1), some (vi x2)] [vi t6] μ 0 0 := by
    rintro _ rfl
    have P := P.2
    exact Z_zreturn dX8_in_15 rfl (by (repeat' split) <;> simp) (Nat.le_refl 0) (Nat.le_refl 0) P
  have G := P.1
  have h1 := G.1
  have G := G.2
  have h2 := G.1
  have G := G.2
  refine Z_icmp_lt (tgt := 14) (pc' := 5) dX8_in_2 (by decide) rfl h1 h2 (fun c3 => ?_) (fun c3 => ?_)
  · refine Z_iconst (pc' := 15) dX8_in_14 rfl ?_
    exact K _ (by rw [if_pos c3])
  · have G := G.2 c3
    refine Z_iload_n (pc' := 6) dX8_in_5 rfl rfl ?_
    refine Z_iload_n (pc' := 7) dX8_in_6 rfl rfl ?_
    have h4 := G
    refine Z_icmp_gt (tgt := 14) (pc' := 10) dX8_in_7 (by decide) rfl h1 h4 (fun c5 => ?_) (fun c5 => ?_)
    · refine Z_iconst (pc' := 15) dX8_in_14 rfl ?_
      exact K _ (by rw [if_neg c3, if_pos c5])
    · refine Z_iconst (pc' := 11) dX8_in_10 rfl ?_
      refine Z_goto (tgt := 15) dX8_in_11 (by decide) ?_
      exact K _ (by rw [if_neg c3, if_neg c5])
abbrev zX8_copies_2 (d : Nat) (Q : zMem → Prop) (x1 : Int) (x2 : Int) (x3 : Int) (μ : zMem) : Prop := Z SS none mX8_copies d 0 0 (qV Q) 2 [some (.ref 54), some (vi x1), some (vi x2), some (vi x3)] [] μ 0 0
theorem bX8_copies {d : Nat} {Q : zMem → Prop} {μ : zMem} {x1 : Int} {x2 : Int} (P : zX8_copies_2 d Q x1 x2 0 μ) : kX8_copies d x1 x2 μ Q := by
  refine Cl_of rfl (Nat.le_of_ble_eq_true rfl) rfl ?_
  show Z SS none mX8_copies d 0 0 (qV Q) 0 [some (.ref 54), some (vi x1), some (vi x2), none] [] μ 0 0
  refine Z_iconst (pc' := 1) dX8_copies_0 rfl ?_
  refine Z_istore_n (pc' := 2) (lo' := [some (.ref 54), some (vi x1), some (vi x2), some (vi 0)]) dX8_copies_1 rfl (by decide) rfl ?_
  exact P
theorem bX8_copies_2 {d : Nat} {Q : zMem → Prop} {μ : zMem} {x1 : Int} {x2 : Int} {x3 : Int} (P : (zIn x3) ∧ ((257 ≤ x3 → (Q μ)) ∧ (¬ (257 ≤ x3) → ((0 ≤ (x1 + x3)) ∧ (((x1 + x3) < 1285) ∧ ((0 ≤ (x2 + x3)) ∧ (((x2 + x3) < 1285) ∧ (zX8_copies_2 d Q x1 x2 (x3 + 1) (sI μ 55 (x2 + x3) (gI μ 55 (x1 + x3))))))))))) : zX8_copies_2 d Q x1 x2 x3 μ := by
  refine Z_iload_n (pc' := 3) dX8_copies_2 rfl rfl ?_
  refine Z_sipush (pc' := 6) dX8_copies_3 rfl rfl ?_
  have h1 := P.1
  have P := P.2
  refine Z_icmp_ge (tgt := 31) (pc' := 9) dX8_copies_6 (by decide) rfl h1 (z_lit rfl) (fun c2 => ?_) (fun c2 => ?_)
  · have P := P.1 c2
    exact Z_return dX8_copies_31 rfl (Nat.le_refl 0) (Nat.le_refl 0) P
  · have P := P.2 c2
    refine Z_aload_n (pc' := 10) dX8_copies_9 rfl rfl ?_
    refine Z_getR (q := 55) (pc' := 13) dX8_copies_10 rfl fX8_7 rfl (Or.inl dd_54) (Or.inl rr_54_0) ?_
    refine Z_iload_n (pc' := 14) dX8_copies_13 rfl rfl ?_
    refine Z_iload_n (pc' := 15) dX8_copies_14 rfl rfl ?_
    refine Z_iadd (pc' := 16) dX8_copies_15 rfl ?_
    refine Z_aload_n (pc' := 17) dX8_copies_16 rfl rfl ?_
    refine Z_getR (q := 55) (pc' := 20) dX8_copies_17 rfl fX8_7 rfl (Or.inl dd_54) (Or.inl rr_54_0) ?_
    refine Z_iload_n (pc' := 21) dX8_copies_20 rfl rfl ?_
    refine Z_iload_n (pc' := 22) dX8_copies_21 rfl rfl ?_
    refine Z_iadd (pc' := 23) dX8_copies_22 rfl ?_
    have h3 := P.1
    have P := P.2
    have h4 := P.1
    have P := P.2
    refine Z_iaload (pc' := 24) dX8_copies_23 rfl (Or.inl dd_55) (Nat.le_of_ble_eq_true rfl) h3 h4 ?_
    have h5 := P.1
    have P := P.2
    have h6 := P.1
    have P := P.2
    refine Z_iastore (pc' := 25) dX8_copies_24 rfl (Or.inl dd_55) (Nat.le_of_ble_eq_true rfl) h5 h6 ?_
    refine Z_iinc (pc' := 28) (lo' := [some (.ref 54), some (vi x1), some (vi x2), some (vi (x3 + 1))]) dX8_copies_25 rfl (by decide) rfl rfl ?_
    refine Z_goto (tgt := 2) dX8_copies_28 (by decide) ?_
    exact P
abbrev zX8_records_2 (d : Nat) (Q : zMem → Prop) (x1 : Int) (μ : zMem) : Prop := Z SS none mX8_records (d + 1) 0 0 (qV Q) 2 [some (.ref 54), some (vi x1)] [] μ 0 0
theorem bX8_records {d : Nat} {Q : zMem → Prop} {μ : zMem}  (P : zX8_records_2 d Q 1 μ) : kX8_records (d + 1) μ Q := by
  refine Cl_of rfl (Nat.le_of_ble_eq_true rfl) rfl ?_
  show Z SS none mX8_records (d + 1) 0 0 (qV Q) 0 [some (.ref 54), none] [] μ 0 0
  refine Z_iconst (pc' := 1) dX8_records_0 rfl ?_
  refine Z_istore_n (pc' := 2) (lo' := [some (.ref 54), some (vi 1)]) dX8_records_1 rfl (by decide) rfl ?_
  exact P
theorem bX8_records_2 {d : Nat} {Q : zMem → Prop} {μ : zMem} {x1 : Int} (P : (zIn x1) ∧ ((4 ≤ x1 → (((zIn (gI μ 54 1))) ∧ (kX8_copies d 0 (257 * (gI (sI (sI μ 54 1 ((gI μ 54 1) - (if (gI μ 54 1) = 4 then 1 else 0))) 54 1 ((gI (sI μ 54 1 ((gI μ 54 1) - (if (gI μ 54 1) = 4 then 1 else 0))) 54 1) + 1)) 54 1)) (sI (sI μ 54 1 ((gI μ 54 1) - (if (gI μ 54 1) = 4 then 1 else 0))) 54 1 ((gI (sI μ 54 1 ((gI μ 54 1) - (if (gI μ 54 1) = 4 then 1 else 0))) 54 1) + 1)) (fun μ6 : zMem => Q μ6)))) ∧ (¬ (4 ≤ x1) → ((zIn (gI μ 54 1)) ∧ (((gI μ 54 1) = 4 → (kX8_copies d (257 * (x1 + 1)) (257 * x1) μ (fun μ9 : zMem => zX8_records_2 d Q (x1 + 1) μ9))) ∧ (¬ ((gI μ 54 1) = 4) → (kX8_copies d 0 (257 * (gI (sI (sI μ 54 1 ((gI μ 54 1) - (if (gI μ 54 1) = 4 then 1 else 0))) 54 1 ((gI (sI μ 54 1 ((gI μ 54 1) - (if (gI μ 54 1) = 4 then 1 else 0))) 54 1) + 1)) 54 1)) (sI (sI μ 54 1 ((gI μ 54 1) - (if (gI μ 54 1) = 4 then 1 else 0))) 54 1 ((gI (sI μ 54 1 ((gI μ 54 1) - (if (gI μ 54 1) = 4 then 1 else 0))) 54 1) + 1)) (fun μ12 : zMem => Q μ12)))))))) : zX8_records_2 d Q x1 μ := by
  refine Z_iload_n (pc' := 3) dX8_records_2 rfl rfl ?_
  refine Z_iconst (pc' := 4) dX8_records_3 rfl ?_
  have h1 := P.1
  have P := P.2
  refine Z_icmp_ge (tgt := 37) (pc' := 7) dX8_records_4 (by decide) rfl h1 (z_lit rfl) (fun c2 => ?_) (fun c2 => ?_)
  · have P := P.1 c2
    refine Z_aload_n (pc' := 38) dX8_records_37 rfl rfl ?_
    refine Z_dup (pc' := 39) dX8_records_38 rfl rfl ?_
    refine Z_getI' (ji := 1) (pc' := 42) dX8_records_39 rfl rfl fX8_41 rfl (Or.inl dd_54) ?_
    refine Z_aload_n (pc' := 43) dX8_records_42 rfl rfl ?_
    refine Z_getI' (ji := 1) (pc' := 46) dX8_records_43 rfl rfl fX8_41 rfl (Or.inl dd_54) ?_
    refine Z_iconst (pc' := 47) dX8_records_46 rfl ?_
    have K : ∀ t5 : Int, t5 = (if (gI μ 54 1) = 4 then 1 else 0) → Z SS none mX8_records (d + 1) 0 0 (qV Q) 55 [some (.ref 54), some (vi x1)] [vi t5, vi (gI μ 54 1), .ref 54] μ 0 0 := by
      rintro _ rfl
      have P := P.2
      refine Z_isub (pc' := 56) dX8_records_55 rfl ?_
      refine Z_putI' (ji := 1) (pc' := 59) dX8_records_56 rfl rfl fX8_41 (Or.inl rfl) rfl (Or.inl dd_54) ?_
      refine Z_aload_n (pc' := 60) dX8_records_59 rfl rfl ?_
      refine Z_dup (pc' := 61) dX8_records_60 rfl rfl ?_
      refine Z_getI' (ji := 1) (pc' := 64) dX8_records_61 rfl rfl fX8_41 rfl (Or.inl dd_54) ?_
      refine Z_iconst (pc' := 65) dX8_records_64 rfl ?_
      refine Z_iadd (pc' := 66) dX8_records_65 rfl ?_
      refine Z_putI' (ji := 1) (pc' := 69) dX8_records_66 rfl rfl fX8_41 (Or.inl rfl) rfl (Or.inl dd_54) ?_
      refine Z_aload_n (pc' := 70) dX8_records_69 rfl rfl ?_
      refine Z_iconst (pc' := 71) dX8_records_70 rfl ?_
      refine Z_sipush (pc' := 74) dX8_records_71 rfl rfl ?_
      refine Z_aload_n (pc' := 75) dX8_records_74 rfl rfl ?_
      refine Z_getI' (ji := 1) (pc' := 78) dX8_records_75 rfl rfl fX8_41 rfl (Or.inl dd_54) ?_
      refine Z_imul (pc' := 79) dX8_records_78 rfl ?_
      refine Z_callV0 (M' := mX8_copies) (pc' := 82) (st := []) [vi 0, vi (257 * (gI (sI (sI μ 54 1 ((gI μ 54 1) - (if (gI μ 54 1) = 4 then 1 else 0))) 54 1 ((gI (sI μ 54 1 ((gI μ 54 1) - (if (gI μ 54 1) = 4 then 1 else 0))) 54 1) + 1)) 54 1))] dX8_records_79 rfl vX8_copies lX8_45 (Or.inl dd_54) rfl (Nat.le_of_ble_eq_true rfl) (Nat.le_refl 0) (Nat.le_refl 0) ?_
      refine Cl_mono P ?_
      rintro _ μ6 ⟨rfl, P⟩
      show Z SS none mX8_records (d + 1) 0 0 (qV Q) 82 [some (.ref 54), some (vi x1)] [] μ6 0 0
      exact Z_return dX8_records_82 rfl (Nat.le_refl 0) (Nat.le_refl 0) P
    have G := P.1
    have h3 := G
    refine Z_icmp_ne (tgt := 54) (pc' := 50) dX8_records_47 (by decide) rfl h3 (z_lit rfl) (fun c4 => ?_) (fun c4 => ?_)
    · refine Z_iconst (pc' := 55) dX8_records_54 rfl ?_
      exact K _ (by rw [if_neg c4])
    · refine Z_iconst (pc' := 51) dX8_records_50 rfl ?_
      refine Z_goto (tgt := 55) dX8_records_51 (by decide) ?_
      exact K _ (by rw [if_pos c4])
  · have P := P.2 c2
    refine Z_aload_n (pc' := 8) dX8_records_7 rfl rfl ?_
    refine Z_getI' (ji := 1) (pc' := 11) dX8_records_8 rfl rfl fX8_41 rfl (Or.inl dd_54) ?_
    refine Z_iconst (pc' := 12) dX8_records_11 rfl ?_
    have h7 := P.1
    have P := P.2
    refine Z_icmp_ne (tgt := 37) (pc' := 15) dX8_records_12 (by decide) rfl h7 (z_lit rfl) (fun c8 => ?_) (fun c8 => ?_)
    · have P := P.2 c8
      refine Z_aload_n (pc' := 38) dX8_records_37 rfl rfl ?_
      refine Z_dup (pc' := 39) dX8_records_38 rfl rfl ?_
      refine Z_getI' (ji := 1) (pc' := 42) dX8_records_39 rfl rfl fX8_41 rfl (Or.inl dd_54) ?_
      refine Z_aload_n (pc' := 43) dX8_records_42 rfl rfl ?_
      refine Z_getI' (ji := 1) (pc' := 46) dX8_records_43 rfl rfl fX8_41 rfl (Or.inl dd_54) ?_
      refine Z_iconst (pc' := 47) dX8_records_46 rfl ?_
      have K : ∀ t11 : Int, t11 = (if (gI μ 54 1) = 4 then 1 else 0) → Z SS none mX8_records (d + 1) 0 0 (qV Q) 55 [some (.ref 54), some (vi x1)] [vi t11, vi (gI μ 54 1), .ref 54] μ 0 0 := by
        rintro _ rfl
        refine Z_isub (pc' := 56) dX8_records_55 rfl ?_
        refine Z_putI' (ji := 1) (pc' := 59) dX8_records_56 rfl rfl fX8_41 (Or.inl rfl) rfl (Or.inl dd_54) ?_
        refine Z_aload_n (pc' := 60) dX8_records_59 rfl rfl ?_
        refine Z_dup (pc' := 61) dX8_records_60 rfl rfl ?_
        refine Z_getI' (ji := 1) (pc' := 64) dX8_records_61 rfl rfl fX8_41 rfl (Or.inl dd_54) ?_
        refine Z_iconst (pc' := 65) dX8_records_64 rfl ?_
        refine Z_iadd (pc' := 66) dX8_records_65 rfl ?_
        refine Z_putI' (ji := 1) (pc' := 69) dX8_records_66 rfl rfl fX8_41 (Or.inl rfl) rfl (Or.inl dd_54) ?_
        refine Z_aload_n (pc' := 70) dX8_records_69 rfl rfl ?_
        refine Z_iconst (pc' := 71) dX8_records_70 rfl ?_
        refine Z_sipush (pc' := 74) dX8_records_71 rfl rfl ?_
        refine Z_aload_n (pc' := 75) dX8_records_74 rfl rfl ?_
        refine Z_getI' (ji := 1) (pc' := 78) dX8_records_75 rfl rfl fX8_41 rfl (Or.inl dd_54) ?_
        refine Z_imul (pc' := 79) dX8_records_78 rfl ?_
        refine Z_callV0 (M' := mX8_copies) (pc' := 82) (st := []) [vi 0, vi (257 * (gI (sI (sI μ 54 1 ((gI μ 54 1) - (if (gI μ 54 1) = 4 then 1 else 0))) 54 1 ((gI (sI μ 54 1 ((gI μ 54 1) - (if (gI μ 54 1) = 4 then 1 else 0))) 54 1) + 1)) 54 1))] dX8_records_79 rfl vX8_copies lX8_45 (Or.inl dd_54) rfl (Nat.le_of_ble_eq_true rfl) (Nat.le_refl 0) (Nat.le_refl 0) ?_
        refine Cl_mono P ?_
        rintro _ μ12 ⟨rfl, P⟩
        show Z SS none mX8_records (d + 1) 0 0 (qV Q) 82 [some (.ref 54), some (vi x1)] [] μ12 0 0
        exact Z_return dX8_records_82 rfl (Nat.le_refl 0) (Nat.le_refl 0) P
      refine Z_icmp_ne (tgt := 54) (pc' := 50) dX8_records_47 (by decide) rfl h7 (z_lit rfl) (fun c10 => ?_) (fun c10 => ?_)
      · refine Z_iconst (pc' := 55) dX8_records_54 rfl ?_
        exact K _ (by rw [if_neg c10])
      · refine Z_iconst (pc' := 51) dX8_records_50 rfl ?_
        refine Z_goto (tgt := 55) dX8_records_51 (by decide) ?_
        exact K _ (by rw [if_pos c10])
    · have P := P.1 c8
      refine Z_aload_n (pc' := 16) dX8_records_15 rfl rfl ?_
      refine Z_sipush (pc' := 19) dX8_records_16 rfl rfl ?_
      refine Z_iload_n (pc' := 20) dX8_records_19 rfl rfl ?_
      refine Z_iconst (pc' := 21) dX8_records_20 rfl ?_
      refine Z_iadd (pc' := 22) dX8_records_21 rfl ?_
      refine Z_imul (pc' := 23) dX8_records_22 rfl ?_
      refine Z_sipush (pc' := 26) dX8_records_23 rfl rfl ?_
      refine Z_iload_n (pc' := 27) dX8_records_26 rfl rfl ?_
      refine Z_imul (pc' := 28) dX8_records_27 rfl ?_
      refine Z_callV0 (M' := mX8_copies) (pc' := 31) (st := []) [vi (257 * (x1 + 1)), vi (257 * x1)] dX8_records_28 rfl vX8_copies lX8_45 (Or.inl dd_54) rfl (Nat.le_of_ble_eq_true rfl) (Nat.le_refl 0) (Nat.le_refl 0) ?_
      refine Cl_mono P ?_
      rintro _ μ9 ⟨rfl, P⟩
      show Z SS none mX8_records (d + 1) 0 0 (qV Q) 31 [some (.ref 54), some (vi x1)] [] μ9 0 0
      refine Z_iinc (pc' := 34) (lo' := [some (.ref 54), some (vi (x1 + 1))]) dX8_records_31 rfl (by decide) rfl rfl ?_
      refine Z_goto (tgt := 2) dX8_records_34 (by decide) ?_
      exact P
theorem bX8_shapeOf {d : Nat} {Q : Int → zMem → Prop} {μ : zMem} {x1 : Int} {x2 : Int} (P : (0 ≤ ((1 + (5 * x1)) + x2)) ∧ ((((1 + (5 * x1)) + x2) < 1285) ∧ (Q (gI μ 55 ((1 + (5 * x1)) + x2)) μ))) : kX8_shapeOf d x1 x2 μ Q := by
  refine Cl_of rfl (Nat.le_of_ble_eq_true rfl) rfl ?_
  show Z SS none mX8_shapeOf d 0 0 (qI Q) 0 [some (.ref 54), some (vi x1), some (vi x2)] [] μ 0 0
  refine Z_aload_n (pc' := 1) dX8_shapeOf_0 rfl rfl ?_
  refine Z_getR (q := 55) (pc' := 4) dX8_shapeOf_1 rfl fX8_7 rfl (Or.inl dd_54) (Or.inl rr_54_0) ?_
  refine Z_iconst (pc' := 5) dX8_shapeOf_4 rfl ?_
  refine Z_iconst (pc' := 6) dX8_shapeOf_5 rfl ?_
  refine Z_iload_n (pc' := 7) dX8_shapeOf_6 rfl rfl ?_
  refine Z_imul (pc' := 8) dX8_shapeOf_7 rfl ?_
  refine Z_iadd (pc' := 9) dX8_shapeOf_8 rfl ?_
  refine Z_iload_n (pc' := 10) dX8_shapeOf_9 rfl rfl ?_
  refine Z_iadd (pc' := 11) dX8_shapeOf_10 rfl ?_
  have h1 := P.1
  have P := P.2
  have h2 := P.1
  have P := P.2
  refine Z_iaload (pc' := 12) dX8_shapeOf_11 rfl (Or.inl dd_55) (Nat.le_of_ble_eq_true rfl) h1 h2 ?_
  exact Z_ireturn dX8_shapeOf_12 rfl (Nat.le_refl 0) (Nat.le_refl 0) P
theorem bX8_size {d : Nat} {Q : Int → zMem → Prop} {μ : zMem} {x0 : Int} (P : ((zIn x0)) ∧ (Q (if 0 ≤ x0 then x0 else (-x0)) μ)) : kX8_size d x0 μ Q := by
  refine Cl_of rfl (Nat.le_of_ble_eq_true rfl) rfl ?_
  show Z SS none mX8_size d 0 0 (qI Q) 0 [some (vi x0)] [] μ 0 0
  refine Z_iload_n (pc' := 1) dX8_size_0 rfl rfl ?_
  have K : ∀ t3 : Int, t3 = (if 0 ≤ x0 then x0 else (-x0)) → Z SS none mX8_size d 0 0 (qI Q) 10 [some (vi x0)] [vi t3] μ 0 0 := by
    rintro _ rfl
    have P := P.2
    exact Z_ireturn dX8_size_10 rfl (Nat.le_refl 0) (Nat.le_refl 0) P
  have G := P.1
  have h1 := G
  refine Z_if_ge (tgt := 9) (pc' := 4) dX8_size_1 (by decide) rfl h1 (fun c2 => ?_) (fun c2 => ?_)
  · refine Z_iload_n (pc' := 10) dX8_size_9 rfl rfl ?_
    exact K _ (by rw [if_pos c2])
  · refine Z_iload_n (pc' := 5) dX8_size_4 rfl rfl ?_
    refine Z_ineg (pc' := 6) dX8_size_5 rfl ?_
    refine Z_goto (tgt := 10) dX8_size_6 (by decide) ?_
    exact K _ (by rw [if_neg c2])
theorem bX8_belongs {d : Nat} {Q : Int → zMem → Prop} {μ : zMem} {x1 : Int} {x2 : Int} {x3 : Int} (P : kX8_shapeOf d x1 1 μ (fun (r2 : Int) (μ1 : zMem) => kX8_shapeOf d x1 2 μ1 (fun (r4 : Int) (μ3 : zMem) => kX8_shapeOf d x1 3 μ3 (fun (r6 : Int) (μ5 : zMem) => kX8_shapeOf d x1 4 μ5 (fun (r8 : Int) (μ7 : zMem) => kX8_in d x2 r2 r6 μ7 (fun (r10 : Int) (μ9 : zMem) => (zIn r10) ∧ ((r10 = 0 → (Q 0 μ9)) ∧ (¬ (r10 = 0) → (kX8_in d x3 r4 r8 μ9 (fun (r14 : Int) (μ13 : zMem) => (zIn r14) ∧ ((r14 = 0 → (Q 0 μ13)) ∧ (¬ (r14 = 0) → (kX8_size d (((2 * x2) - r2) - r6) μ13 (fun (r18 : Int) (μ17 : zMem) => kX8_size d (((2 * x3) - r4) - r8) μ17 (fun (r20 : Int) (μ19 : zMem) => kX8_shapeOf d x1 0 μ19 (fun (r22 : Int) (μ21 : zMem) => (zIn r22) ∧ ((r22 = 0 → (Q 1 μ21)) ∧ (¬ (r22 = 0) → ((r22 = 1 → (((zIn ((r18 * ((r8 - r4) + 1)) + (r20 * ((r6 - r2) + 1)))) ∧ ((zIn (((r6 - r2) + 1) * ((r8 - r4) + 1))) ∧ ((((r18 * ((r8 - r4) + 1)) + (r20 * ((r6 - r2) + 1))) ≤ (((r6 - r2) + 1) * ((r8 - r4) + 1)) → True) ∧ (¬ (((r18 * ((r8 - r4) + 1)) + (r20 * ((r6 - r2) + 1))) ≤ (((r6 - r2) + 1) * ((r8 - r4) + 1))) → ((r22 = 2 → ((zIn ((((r18 * r18) * ((r8 - r4) + 1)) * ((r8 - r4) + 1)) + (((r20 * r20) * ((r6 - r2) + 1)) * ((r6 - r2) + 1)))) ∧ ((zIn (((((r6 - r2) + 1) * ((r6 - r2) + 1)) * ((r8 - r4) + 1)) * ((r8 - r4) + 1))) ∧ ((((((r18 * r18) * ((r8 - r4) + 1)) * ((r8 - r4) + 1)) + (((r20 * r20) * ((r6 - r2) + 1)) * ((r6 - r2) + 1))) ≤ (((((r6 - r2) + 1) * ((r6 - r2) + 1)) * ((r8 - r4) + 1)) * ((r8 - r4) + 1)) → True) ∧ (¬ (((((r18 * r18) * ((r8 - r4) + 1)) * ((r8 - r4) + 1)) + (((r20 * r20) * ((r6 - r2) + 1)) * ((r6 - r2) + 1))) ≤ (((((r6 - r2) + 1) * ((r6 - r2) + 1)) * ((r8 - r4) + 1)) * ((r8 - r4) + 1))) → ((r22 = 3 → ((zIn (r18 * ((r8 - r4) + 1))) ∧ ((zIn (((r6 - r2) + 1) * ((x3 - r4) + 1)))))) ∧ (¬ (r22 = 3) → True))))))) ∧ (¬ (r22 = 2) → ((r22 = 3 → ((zIn (r18 * ((r8 - r4) + 1))) ∧ ((zIn (((r6 - r2) + 1) * ((x3 - r4) + 1)))))) ∧ (¬ (r22 = 3) → True)))))))) ∧ (Q (if ((r18 * ((r8 - r4) + 1)) + (r20 * ((r6 - r2) + 1))) ≤ (((r6 - r2) + 1) * ((r8 - r4) + 1)) then 1 else (if r22 = 2 then (if ((((r18 * r18) * ((r8 - r4) + 1)) * ((r8 - r4) + 1)) + (((r20 * r20) * ((r6 - r2) + 1)) * ((r6 - r2) + 1))) ≤ (((((r6 - r2) + 1) * ((r6 - r2) + 1)) * ((r8 - r4) + 1)) * ((r8 - r4) + 1)) then 1 else (if r22 = 3 then (if (((r6 - r2) + 1) * ((x3 - r4) + 1)) < (r18 * ((r8 - r4) + 1)) then 0 else 1) else 0)) else (if r22 = 3 then (if (((r6 - r2) + 1) * ((x3 - r4) + 1)) < (r18 * ((r8 - r4) + 1)) then 0 else 1) else 0))) μ21))) ∧ (¬ (r22 = 1) → (((r22 = 2 → ((zIn ((((r18 * r18) * ((r8 - r4) + 1)) * ((r8 - r4) + 1)) + (((r20 * r20) * ((r6 - r2) + 1)) * ((r6 - r2) + 1)))) ∧ ((zIn (((((r6 - r2) + 1) * ((r6 - r2) + 1)) * ((r8 - r4) + 1)) * ((r8 - r4) + 1))) ∧ ((((((r18 * r18) * ((r8 - r4) + 1)) * ((r8 - r4) + 1)) + (((r20 * r20) * ((r6 - r2) + 1)) * ((r6 - r2) + 1))) ≤ (((((r6 - r2) + 1) * ((r6 - r2) + 1)) * ((r8 - r4) + 1)) * ((r8 - r4) + 1)) → True) ∧ (¬ (((((r18 * r18) * ((r8 - r4) + 1)) * ((r8 - r4) + 1)) + (((r20 * r20) * ((r6 - r2) + 1)) * ((r6 - r2) + 1))) ≤ (((((r6 - r2) + 1) * ((r6 - r2) + 1)) * ((r8 - r4) + 1)) * ((r8 - r4) + 1))) → ((r22 = 3 → ((zIn (r18 * ((r8 - r4) + 1))) ∧ ((zIn (((r6 - r2) + 1) * ((x3 - r4) + 1)))))) ∧ (¬ (r22 = 3) → True))))))) ∧ (¬ (r22 = 2) → ((r22 = 3 → ((zIn (r18 * ((r8 - r4) + 1))) ∧ ((zIn (((r6 - r2) + 1) * ((x3 - r4) + 1)))))) ∧ (¬ (r22 = 3) → True)))) ∧ (Q (if r22 = 2 then (if ((((r18 * r18) * ((r8 - r4) + 1)) * ((r8 - r4) + 1)) + (((r20 * r20) * ((r6 - r2) + 1)) * ((r6 - r2) + 1))) ≤ (((((r6 - r2) + 1) * ((r6 - r2) + 1)) * ((r8 - r4) + 1)) * ((r8 - r4) + 1)) then 1 else (if r22 = 3 then (if (((r6 - r2) + 1) * ((x3 - r4) + 1)) < (r18 * ((r8 - r4) + 1)) then 0 else 1) else 0)) else (if r22 = 3 then (if (((r6 - r2) + 1) * ((x3 - r4) + 1)) < (r18 * ((r8 - r4) + 1)) then 0 else 1) else 0)) μ21)))))))))))))))))))))) : kX8_belongs (d + 1) x1 x2 x3 μ Q := by
  refine Cl_of rfl (Nat.le_of_ble_eq_true rfl) rfl ?_
  show Z SS none mX8_belongs (d + 1) 0 0 (qI Q) 0 [some (.ref 54), some (vi x1), some (vi x2), some (vi x3), none, none, none, none, none, none, none, none, none] [] μ 0 0
  refine Z_aload_n (pc' := 1) dX8_belongs_0 rfl rfl ?_
  refine Z_iload_n (pc' := 2) dX8_belongs_1 rfl rfl ?_
  refine Z_iconst (pc' := 3) dX8_belongs_2 rfl ?_
  refine Z_callV0 (M' := mX8_shapeOf) (pc' := 6) (st := []) [vi x1, vi 1] dX8_belongs_3 rfl vX8_shapeOf lX8_49 (Or.inl dd_54) rfl (Nat.le_of_ble_eq_true rfl) (Nat.le_refl 0) (Nat.le_refl 0) ?_
  refine Cl_mono P ?_
  rintro _ μ1 ⟨r2, rfl, P⟩
  show Z SS none mX8_belongs (d + 1) 0 0 (qI Q) 6 [some (.ref 54), some (vi x1), some (vi x2), some (vi x3), none, none, none, none, none, none, none, none, none] [vi r2] μ1 0 0
  refine Z_istore (pc' := 8) (lo' := [some (.ref 54), some (vi x1), some (vi x2), some (vi x3), some (vi r2), none, none, none, none, none, none, none, none]) dX8_belongs_6 rfl (by decide) rfl ?_
  refine Z_aload_n (pc' := 9) dX8_belongs_8 rfl rfl ?_
  refine Z_iload_n (pc' := 10) dX8_belongs_9 rfl rfl ?_
  refine Z_iconst (pc' := 11) dX8_belongs_10 rfl ?_
  refine Z_callV0 (M' := mX8_shapeOf) (pc' := 14) (st := []) [vi x1, vi 2] dX8_belongs_11 rfl vX8_shapeOf lX8_49 (Or.inl dd_54) rfl (Nat.le_of_ble_eq_true rfl) (Nat.le_refl 0) (Nat.le_refl 0) ?_
  refine Cl_mono P ?_
  rintro _ μ3 ⟨r4, rfl, P⟩
  show Z SS none mX8_belongs (d + 1) 0 0 (qI Q) 14 [some (.ref 54), some (vi x1), some (vi x2), some (vi x3), some (vi r2), none, none, none, none, none, none, none, none] [vi r4] μ3 0 0
  refine Z_istore (pc' := 16) (lo' := [some (.ref 54), some (vi x1), some (vi x2), some (vi x3), some (vi r2), some (vi r4), none, none, none, none, none, none, none]) dX8_belongs_14 rfl (by decide) rfl ?_
  refine Z_aload_n (pc' := 17) dX8_belongs_16 rfl rfl ?_
  refine Z_iload_n (pc' := 18) dX8_belongs_17 rfl rfl ?_
  refine Z_iconst (pc' := 19) dX8_belongs_18 rfl ?_
  refine Z_callV0 (M' := mX8_shapeOf) (pc' := 22) (st := []) [vi x1, vi 3] dX8_belongs_19 rfl vX8_shapeOf lX8_49 (Or.inl dd_54) rfl (Nat.le_of_ble_eq_true rfl) (Nat.le_refl 0) (Nat.le_refl 0) ?_
  refine Cl_mono P ?_
  rintro _ μ5 ⟨r6, rfl, P⟩
  show Z SS none mX8_belongs (d + 1) 0 0 (qI Q) 22 [some (.ref 54), some (vi x1), some (vi x2), some (vi x3), some (vi r2), some (vi r4), none, none, none, none, none, none, none] [vi r6] μ5 0 0
  refine Z_istore (pc' := 24) (lo' := [some (.ref 54), some (vi x1), some (vi x2), some (vi x3), some (vi r2), some (vi r4), some (vi r6), none, none, none, none, none, none]) dX8_belongs_22 rfl (by decide) rfl ?_
  refine Z_aload_n (pc' := 25) dX8_belongs_24 rfl rfl ?_
  refine Z_iload_n (pc' := 26) dX8_belongs_25 rfl rfl ?_
  refine Z_iconst (pc' := 27) dX8_belongs_26 rfl ?_
  refine Z_callV0 (M' := mX8_shapeOf) (pc' := 30) (st := []) [vi x1, vi 4] dX8_belongs_27 rfl vX8_shapeOf lX8_49 (Or.inl dd_54) rfl (Nat.le_of_ble_eq_true rfl) (Nat.le_refl 0) (Nat.le_refl 0) ?_
  refine Cl_mono P ?_
  rintro _ μ7 ⟨r8, rfl, P⟩
  show Z SS none mX8_belongs (d + 1) 0 0 (qI Q) 30 [some (.ref 54), some (vi x1), some (vi x2), some (vi x3), some (vi r2), some (vi r4), some (vi r6), none, none, none, none, none, none] [vi r8] μ7 0 0
  refine Z_istore (pc' := 32) (lo' := [some (.ref 54), some (vi x1), some (vi x2), some (vi x3), some (vi r2), some (vi r4), some (vi r6), some (vi r8), none, none, none, none, none]) dX8_belongs_30 rfl (by decide) rfl ?_
  refine Z_iload_n (pc' := 33) dX8_belongs_32 rfl rfl ?_
  refine Z_iload (pc' := 35) dX8_belongs_33 rfl rfl ?_
  refine Z_iload (pc' := 37) dX8_belongs_35 rfl rfl ?_
  refine Z_callS0 (M' := mX8_in) (pc' := 40) (st := []) [vi x2, vi r2, vi r6] dX8_belongs_37 rfl sX8_in lX8_53 rfl (Nat.le_of_ble_eq_true rfl) (Nat.le_refl 0) (Nat.le_refl 0) ?_
  refine Cl_mono P ?_
  rintro _ μ9 ⟨r10, rfl, P⟩
  show Z SS none mX8_belongs (d + 1) 0 0 (qI Q) 40 [some (.ref 54), some (vi x1), some (vi x2), some (vi x3), some (vi r2), some (vi r4), some (vi r6), some (vi r8), none, none, none, none, none] [vi r10] μ9 0 0
  have h11 := P.1
  have P := P.2
  refine Z_if_eq (tgt := 54) (pc' := 43) dX8_belongs_40 (by decide) rfl h11 (fun c12 => ?_) (fun c12 => ?_)
  · have P := P.1 c12
    refine Z_iconst (pc' := 55) dX8_belongs_54 rfl ?_
    exact Z_zreturn dX8_belongs_55 rfl (Or.inl rfl) (Nat.le_refl 0) (Nat.le_refl 0) P
  · have P := P.2 c12
    refine Z_iload_n (pc' := 44) dX8_belongs_43 rfl rfl ?_
    refine Z_iload (pc' := 46) dX8_belongs_44 rfl rfl ?_
    refine Z_iload (pc' := 48) dX8_belongs_46 rfl rfl ?_
    refine Z_callS0 (M' := mX8_in) (pc' := 51) (st := []) [vi x3, vi r4, vi r8] dX8_belongs_48 rfl sX8_in lX8_53 rfl (Nat.le_of_ble_eq_true rfl) (Nat.le_refl 0) (Nat.le_refl 0) ?_
    refine Cl_mono P ?_
    rintro _ μ13 ⟨r14, rfl, P⟩
    show Z SS none mX8_belongs (d + 1) 0 0 (qI Q) 51 [some (.ref 54), some (vi x1), some (vi x2), some (vi x3), some (vi r2), some (vi r4), some (vi r6), some (vi r8), none, none, none, none, none] [vi r14] μ13 0 0
    have h15 := P.1
    have P := P.2
    refine Z_if_ne (tgt := 56) (pc' := 54) dX8_belongs_51 (by decide) rfl h15 (fun c16 => ?_) (fun c16 => ?_)
    · have P := P.2 c16
      refine Z_iconst (pc' := 57) dX8_belongs_56 rfl ?_
      refine Z_iload_n (pc' := 58) dX8_belongs_57 rfl rfl ?_
      refine Z_imul (pc' := 59) dX8_belongs_58 rfl ?_
      refine Z_iload (pc' := 61) dX8_belongs_59 rfl rfl ?_
      refine Z_isub (pc' := 62) dX8_belongs_61 rfl ?_
      refine Z_iload (pc' := 64) dX8_belongs_62 rfl rfl ?_
      refine Z_isub (pc' := 65) dX8_belongs_64 rfl ?_
      refine Z_callS0 (M' := mX8_size) (pc' := 68) (st := []) [vi (((2 * x2) - r2) - r6)] dX8_belongs_65 rfl sX8_size lX8_57 rfl (Nat.le_of_ble_eq_true rfl) (Nat.le_refl 0) (Nat.le_refl 0) ?_
      refine Cl_mono P ?_
      rintro _ μ17 ⟨r18, rfl, P⟩
      show Z SS none mX8_belongs (d + 1) 0 0 (qI Q) 68 [some (.ref 54), some (vi x1), some (vi x2), some (vi x3), some (vi r2), some (vi r4), some (vi r6), some (vi r8), none, none, none, none, none] [vi r18] μ17 0 0
      refine Z_istore (pc' := 70) (lo' := [some (.ref 54), some (vi x1), some (vi x2), some (vi x3), some (vi r2), some (vi r4), some (vi r6), some (vi r8), some (vi r18), none, none, none, none]) dX8_belongs_68 rfl (by decide) rfl ?_
      refine Z_iconst (pc' := 71) dX8_belongs_70 rfl ?_
      refine Z_iload_n (pc' := 72) dX8_belongs_71 rfl rfl ?_
      refine Z_imul (pc' := 73) dX8_belongs_72 rfl ?_
      refine Z_iload (pc' := 75) dX8_belongs_73 rfl rfl ?_
      refine Z_isub (pc' := 76) dX8_belongs_75 rfl ?_
      refine Z_iload (pc' := 78) dX8_belongs_76 rfl rfl ?_
      refine Z_isub (pc' := 79) dX8_belongs_78 rfl ?_
      refine Z_callS0 (M' := mX8_size) (pc' := 82) (st := []) [vi (((2 * x3) - r4) - r8)] dX8_belongs_79 rfl sX8_size lX8_57 rfl (Nat.le_of_ble_eq_true rfl) (Nat.le_refl 0) (Nat.le_refl 0) ?_
      refine Cl_mono P ?_
      rintro _ μ19 ⟨r20, rfl, P⟩
      show Z SS none mX8_belongs (d + 1) 0 0 (qI Q) 82 [some (.ref 54), some (vi x1), some (vi x2), some (vi x3), some (vi r2), some (vi r4), some (vi r6), some (vi r8), some (vi r18), none, none, none, none] [vi r20] μ19 0 0
      refine Z_istore (pc' := 84) (lo' := [some (.ref 54), some (vi x1), some (vi x2), some (vi x3), some (vi r2), some (vi r4), some (vi r6), some (vi r8), some (vi r18), some (vi r20), none, none, none]) dX8_belongs_82 rfl (by decide) rfl ?_
      refine Z_iload (pc' := 86) dX8_belongs_84 rfl rfl ?_
      refine Z_iload (pc' := 88) dX8_belongs_86 rfl rfl ?_
      refine Z_isub (pc' := 89) dX8_belongs_88 rfl ?_
      refine Z_iconst (pc' := 90) dX8_belongs_89 rfl ?_
      refine Z_iadd (pc' := 91) dX8_belongs_90 rfl ?_
      refine Z_istore (pc' := 93) (lo' := [some (.ref 54), some (vi x1), some (vi x2), some (vi x3), some (vi r2), some (vi r4), some (vi r6), some (vi r8), some (vi r18), some (vi r20), some (vi ((r6 - r2) + 1)), none, none]) dX8_belongs_91 rfl (by decide) rfl ?_
      refine Z_iload (pc' := 95) dX8_belongs_93 rfl rfl ?_
      refine Z_iload (pc' := 97) dX8_belongs_95 rfl rfl ?_
      refine Z_isub (pc' := 98) dX8_belongs_97 rfl ?_
      refine Z_iconst (pc' := 99) dX8_belongs_98 rfl ?_
      refine Z_iadd (pc' := 100) dX8_belongs_99 rfl ?_
      refine Z_istore (pc' := 102) (lo' := [some (.ref 54), some (vi x1), some (vi x2), some (vi x3), some (vi r2), some (vi r4), some (vi r6), some (vi r8), some (vi r18), some (vi r20), some (vi ((r6 - r2) + 1)), some (vi ((r8 - r4) + 1)), none]) dX8_belongs_100 rfl (by decide) rfl ?_
      refine Z_aload_n (pc' := 103) dX8_belongs_102 rfl rfl ?_
      refine Z_iload_n (pc' := 104) dX8_belongs_103 rfl rfl ?_
      refine Z_iconst (pc' := 105) dX8_belongs_104 rfl ?_
      refine Z_callV0 (M' := mX8_shapeOf) (pc' := 108) (st := []) [vi x1, vi 0] dX8_belongs_105 rfl vX8_shapeOf lX8_49 (Or.inl dd_54) rfl (Nat.le_of_ble_eq_true rfl) (Nat.le_refl 0) (Nat.le_refl 0) ?_
      refine Cl_mono P ?_
      rintro _ μ21 ⟨r22, rfl, P⟩
      show Z SS none mX8_belongs (d + 1) 0 0 (qI Q) 108 [some (.ref 54), some (vi x1), some (vi x2), some (vi x3), some (vi r2), some (vi r4), some (vi r6), some (vi r8), some (vi r18), some (vi r20), some (vi ((r6 - r2) + 1)), some (vi ((r8 - r4) + 1)), none] [vi r22] μ21 0 0
      refine Z_istore (pc' := 110) (lo' := [some (.ref 54), some (vi x1), some (vi x2), some (vi x3), some (vi r2), some (vi r4), some (vi r6), some (vi r8), some (vi r18), some (vi r20), some (vi ((r6 - r2) + 1)), some (vi ((r8 - r4) + 1)), some (vi r22)]) dX8_belongs_108 rfl (by decide) rfl ?_
      refine Z_iload (pc' := 112) dX8_belongs_110 rfl rfl ?_
      have h23 := P.1
      have P := P.2
      refine Z_if_eq (tgt := 206) (pc' := 115) dX8_belongs_112 (by decide) rfl h23 (fun c24 => ?_) (fun c24 => ?_)
      · have P := P.1 c24
        refine Z_iconst (pc' := 207) dX8_belongs_206 rfl ?_
        refine Z_goto (tgt := 211) dX8_belongs_207 (by decide) ?_
        exact Z_zreturn dX8_belongs_211 rfl (Or.inr rfl) (Nat.le_refl 0) (Nat.le_refl 0) P
      · have P := P.2 c24
        refine Z_iload (pc' := 117) dX8_belongs_115 rfl rfl ?_
        refine Z_iconst (pc' := 118) dX8_belongs_117 rfl ?_
        refine Z_icmp_ne (tgt := 140) (pc' := 121) dX8_belongs_118 (by decide) rfl h23 (z_lit rfl) (fun c25 => ?_) (fun c25 => ?_)
        · have P := P.2 c25
          refine Z_iload (pc' := 142) dX8_belongs_140 rfl rfl ?_
          refine Z_iconst (pc' := 143) dX8_belongs_142 rfl ?_
          have K : ∀ t54 : Int, t54 = (if r22 = 2 then (if ((((r18 * r18) * ((r8 - r4) + 1)) * ((r8 - r4) + 1)) + (((r20 * r20) * ((r6 - r2) + 1)) * ((r6 - r2) + 1))) ≤ (((((r6 - r2) + 1) * ((r6 - r2) + 1)) * ((r8 - r4) + 1)) * ((r8 - r4) + 1)) then 1 else (if r22 = 3 then (if (((r6 - r2) + 1) * ((x3 - r4) + 1)) < (r18 * ((r8 - r4) + 1)) then 0 else 1) else 0)) else (if r22 = 3 then (if (((r6 - r2) + 1) * ((x3 - r4) + 1)) < (r18 * ((r8 - r4) + 1)) then 0 else 1) else 0)) → Z SS none mX8_belongs (d + 1) 0 0 (qI Q) 211 [some (.ref 54), some (vi x1), some (vi x2), some (vi x3), some (vi r2), some (vi r4), some (vi r6), some (vi r8), some (vi r18), some (vi r20), some (vi ((r6 - r2) + 1)), some (vi ((r8 - r4) + 1)), some (vi r22)] [vi t54] μ21 0 0 := by
            rintro _ rfl
            have P := P.2
            exact Z_zreturn dX8_belongs_211 rfl (by (repeat' split) <;> simp) (Nat.le_refl 0) (Nat.le_refl 0) P
          have G := P.1
          refine Z_icmp_ne (tgt := 183) (pc' := 146) dX8_belongs_143 (by decide) rfl h23 (z_lit rfl) (fun c42 => ?_) (fun c42 => ?_)
          · have G := G.2 c42
            refine Z_iload (pc' := 185) dX8_belongs_183 rfl rfl ?_
            refine Z_iconst (pc' := 186) dX8_belongs_185 rfl ?_
            refine Z_icmp_ne (tgt := 210) (pc' := 189) dX8_belongs_186 (by decide) rfl h23 (z_lit rfl) (fun c50 => ?_) (fun c50 => ?_)
            · refine Z_iconst (pc' := 211) dX8_belongs_210 rfl ?_
              exact K _ (by rw [if_neg c42, if_neg c50])
            · have G := G.1 c50
              refine Z_iload (pc' := 191) dX8_belongs_189 rfl rfl ?_
              refine Z_iload (pc' := 193) dX8_belongs_191 rfl rfl ?_
              refine Z_imul (pc' := 194) dX8_belongs_193 rfl ?_
              refine Z_iload (pc' := 196) dX8_belongs_194 rfl rfl ?_
              refine Z_iload_n (pc' := 197) dX8_belongs_196 rfl rfl ?_
              refine Z_iload (pc' := 199) dX8_belongs_197 rfl rfl ?_
              refine Z_isub (pc' := 200) dX8_belongs_199 rfl ?_
              refine Z_iconst (pc' := 201) dX8_belongs_200 rfl ?_
              refine Z_iadd (pc' := 202) dX8_belongs_201 rfl ?_
              refine Z_imul (pc' := 203) dX8_belongs_202 rfl ?_
              have h51 := G.1
              have G := G.2
              have h52 := G
              refine Z_icmp_gt (tgt := 210) (pc' := 206) dX8_belongs_203 (by decide) rfl h51 h52 (fun c53 => ?_) (fun c53 => ?_)
              · refine Z_iconst (pc' := 211) dX8_belongs_210 rfl ?_
                exact K _ (by rw [if_neg c42, if_pos c50, if_pos c53])
              · refine Z_iconst (pc' := 207) dX8_belongs_206 rfl ?_
                refine Z_goto (tgt := 211) dX8_belongs_207 (by decide) ?_
                exact K _ (by rw [if_neg c42, if_pos c50, if_neg c53])
          · have G := G.1 c42
            refine Z_iload (pc' := 148) dX8_belongs_146 rfl rfl ?_
            refine Z_iload (pc' := 150) dX8_belongs_148 rfl rfl ?_
            refine Z_imul (pc' := 151) dX8_belongs_150 rfl ?_
            refine Z_iload (pc' := 153) dX8_belongs_151 rfl rfl ?_
            refine Z_imul (pc' := 154) dX8_belongs_153 rfl ?_
            refine Z_iload (pc' := 156) dX8_belongs_154 rfl rfl ?_
            refine Z_imul (pc' := 157) dX8_belongs_156 rfl ?_
            refine Z_iload (pc' := 159) dX8_belongs_157 rfl rfl ?_
            refine Z_iload (pc' := 161) dX8_belongs_159 rfl rfl ?_
            refine Z_imul (pc' := 162) dX8_belongs_161 rfl ?_
            refine Z_iload (pc' := 164) dX8_belongs_162 rfl rfl ?_
            refine Z_imul (pc' := 165) dX8_belongs_164 rfl ?_
            refine Z_iload (pc' := 167) dX8_belongs_165 rfl rfl ?_
            refine Z_imul (pc' := 168) dX8_belongs_167 rfl ?_
            refine Z_iadd (pc' := 169) dX8_belongs_168 rfl ?_
            refine Z_iload (pc' := 171) dX8_belongs_169 rfl rfl ?_
            refine Z_iload (pc' := 173) dX8_belongs_171 rfl rfl ?_
            refine Z_imul (pc' := 174) dX8_belongs_173 rfl ?_
            refine Z_iload (pc' := 176) dX8_belongs_174 rfl rfl ?_
            refine Z_imul (pc' := 177) dX8_belongs_176 rfl ?_
            refine Z_iload (pc' := 179) dX8_belongs_177 rfl rfl ?_
            refine Z_imul (pc' := 180) dX8_belongs_179 rfl ?_
            have h43 := G.1
            have G := G.2
            have h44 := G.1
            have G := G.2
            refine Z_icmp_le (tgt := 206) (pc' := 183) dX8_belongs_180 (by decide) rfl h43 h44 (fun c45 => ?_) (fun c45 => ?_)
            · refine Z_iconst (pc' := 207) dX8_belongs_206 rfl ?_
              refine Z_goto (tgt := 211) dX8_belongs_207 (by decide) ?_
              exact K _ (by rw [if_pos c42, if_pos c45])
            · have G := G.2 c45
              refine Z_iload (pc' := 185) dX8_belongs_183 rfl rfl ?_
              refine Z_iconst (pc' := 186) dX8_belongs_185 rfl ?_
              refine Z_icmp_ne (tgt := 210) (pc' := 189) dX8_belongs_186 (by decide) rfl h23 (z_lit rfl) (fun c46 => ?_) (fun c46 => ?_)
              · refine Z_iconst (pc' := 211) dX8_belongs_210 rfl ?_
                exact K _ (by rw [if_pos c42, if_neg c45, if_neg c46])
              · have G := G.1 c46
                refine Z_iload (pc' := 191) dX8_belongs_189 rfl rfl ?_
                refine Z_iload (pc' := 193) dX8_belongs_191 rfl rfl ?_
                refine Z_imul (pc' := 194) dX8_belongs_193 rfl ?_
                refine Z_iload (pc' := 196) dX8_belongs_194 rfl rfl ?_
                refine Z_iload_n (pc' := 197) dX8_belongs_196 rfl rfl ?_
                refine Z_iload (pc' := 199) dX8_belongs_197 rfl rfl ?_
                refine Z_isub (pc' := 200) dX8_belongs_199 rfl ?_
                refine Z_iconst (pc' := 201) dX8_belongs_200 rfl ?_
                refine Z_iadd (pc' := 202) dX8_belongs_201 rfl ?_
                refine Z_imul (pc' := 203) dX8_belongs_202 rfl ?_
                have h47 := G.1
                have G := G.2
                have h48 := G
                refine Z_icmp_gt (tgt := 210) (pc' := 206) dX8_belongs_203 (by decide) rfl h47 h48 (fun c49 => ?_) (fun c49 => ?_)
                · refine Z_iconst (pc' := 211) dX8_belongs_210 rfl ?_
                  exact K _ (by rw [if_pos c42, if_neg c45, if_pos c46, if_pos c49])
                · refine Z_iconst (pc' := 207) dX8_belongs_206 rfl ?_
                  refine Z_goto (tgt := 211) dX8_belongs_207 (by decide) ?_
                  exact K _ (by rw [if_pos c42, if_neg c45, if_pos c46, if_neg c49])
        · have P := P.1 c25
          refine Z_iload (pc' := 123) dX8_belongs_121 rfl rfl ?_
          refine Z_iload (pc' := 125) dX8_belongs_123 rfl rfl ?_
          refine Z_imul (pc' := 126) dX8_belongs_125 rfl ?_
          refine Z_iload (pc' := 128) dX8_belongs_126 rfl rfl ?_
          refine Z_iload (pc' := 130) dX8_belongs_128 rfl rfl ?_
          refine Z_imul (pc' := 131) dX8_belongs_130 rfl ?_
          refine Z_iadd (pc' := 132) dX8_belongs_131 rfl ?_
          refine Z_iload (pc' := 134) dX8_belongs_132 rfl rfl ?_
          refine Z_iload (pc' := 136) dX8_belongs_134 rfl rfl ?_
          refine Z_imul (pc' := 137) dX8_belongs_136 rfl ?_
          have K : ∀ t41 : Int, t41 = (if ((r18 * ((r8 - r4) + 1)) + (r20 * ((r6 - r2) + 1))) ≤ (((r6 - r2) + 1) * ((r8 - r4) + 1)) then 1 else (if r22 = 2 then (if ((((r18 * r18) * ((r8 - r4) + 1)) * ((r8 - r4) + 1)) + (((r20 * r20) * ((r6 - r2) + 1)) * ((r6 - r2) + 1))) ≤ (((((r6 - r2) + 1) * ((r6 - r2) + 1)) * ((r8 - r4) + 1)) * ((r8 - r4) + 1)) then 1 else (if r22 = 3 then (if (((r6 - r2) + 1) * ((x3 - r4) + 1)) < (r18 * ((r8 - r4) + 1)) then 0 else 1) else 0)) else (if r22 = 3 then (if (((r6 - r2) + 1) * ((x3 - r4) + 1)) < (r18 * ((r8 - r4) + 1)) then 0 else 1) else 0))) → Z SS none mX8_belongs (d + 1) 0 0 (qI Q) 211 [some (.ref 54), some (vi x1), some (vi x2), some (vi x3), some (vi r2), some (vi r4), some (vi r6), some (vi r8), some (vi r18), some (vi r20), some (vi ((r6 - r2) + 1)), some (vi ((r8 - r4) + 1)), some (vi r22)] [vi t41] μ21 0 0 := by
            rintro _ rfl
            have P := P.2
            exact Z_zreturn dX8_belongs_211 rfl (by (repeat' split) <;> simp) (Nat.le_refl 0) (Nat.le_refl 0) P
          have G := P.1
          have h26 := G.1
          have G := G.2
          have h27 := G.1
          have G := G.2
          refine Z_icmp_le (tgt := 206) (pc' := 140) dX8_belongs_137 (by decide) rfl h26 h27 (fun c28 => ?_) (fun c28 => ?_)
          · refine Z_iconst (pc' := 207) dX8_belongs_206 rfl ?_
            refine Z_goto (tgt := 211) dX8_belongs_207 (by decide) ?_
            exact K _ (by rw [if_pos c28])
          · have G := G.2 c28
            refine Z_iload (pc' := 142) dX8_belongs_140 rfl rfl ?_
            refine Z_iconst (pc' := 143) dX8_belongs_142 rfl ?_
            refine Z_icmp_ne (tgt := 183) (pc' := 146) dX8_belongs_143 (by decide) rfl h23 (z_lit rfl) (fun c29 => ?_) (fun c29 => ?_)
            · have G := G.2 c29
              refine Z_iload (pc' := 185) dX8_belongs_183 rfl rfl ?_
              refine Z_iconst (pc' := 186) dX8_belongs_185 rfl ?_
              refine Z_icmp_ne (tgt := 210) (pc' := 189) dX8_belongs_186 (by decide) rfl h23 (z_lit rfl) (fun c37 => ?_) (fun c37 => ?_)
              · refine Z_iconst (pc' := 211) dX8_belongs_210 rfl ?_
                exact K _ (by rw [if_neg c28, if_neg c29, if_neg c37])
              · have G := G.1 c37
                refine Z_iload (pc' := 191) dX8_belongs_189 rfl rfl ?_
                refine Z_iload (pc' := 193) dX8_belongs_191 rfl rfl ?_
                refine Z_imul (pc' := 194) dX8_belongs_193 rfl ?_
                refine Z_iload (pc' := 196) dX8_belongs_194 rfl rfl ?_
                refine Z_iload_n (pc' := 197) dX8_belongs_196 rfl rfl ?_
                refine Z_iload (pc' := 199) dX8_belongs_197 rfl rfl ?_
                refine Z_isub (pc' := 200) dX8_belongs_199 rfl ?_
                refine Z_iconst (pc' := 201) dX8_belongs_200 rfl ?_
                refine Z_iadd (pc' := 202) dX8_belongs_201 rfl ?_
                refine Z_imul (pc' := 203) dX8_belongs_202 rfl ?_
                have h38 := G.1
                have G := G.2
                have h39 := G
                refine Z_icmp_gt (tgt := 210) (pc' := 206) dX8_belongs_203 (by decide) rfl h38 h39 (fun c40 => ?_) (fun c40 => ?_)
                · refine Z_iconst (pc' := 211) dX8_belongs_210 rfl ?_
                  exact K _ (by rw [if_neg c28, if_neg c29, if_pos c37, if_pos c40])
                · refine Z_iconst (pc' := 207) dX8_belongs_206 rfl ?_
                  refine Z_goto (tgt := 211) dX8_belongs_207 (by decide) ?_
                  exact K _ (by rw [if_neg c28, if_neg c29, if_pos c37, if_neg c40])
            · have G := G.1 c29
              refine Z_iload (pc' := 148) dX8_belongs_146 rfl rfl ?_
              refine Z_iload (pc' := 150) dX8_belongs_148 rfl rfl ?_
              refine Z_imul (pc' := 151) dX8_belongs_150 rfl ?_
              refine Z_iload (pc' := 153) dX8_belongs_151 rfl rfl ?_
              refine Z_imul (pc' := 154) dX8_belongs_153 rfl ?_
              refine Z_iload (pc' := 156) dX8_belongs_154 rfl rfl ?_
              refine Z_imul (pc' := 157) dX8_belongs_156 rfl ?_
              refine Z_iload (pc' := 159) dX8_belongs_157 rfl rfl ?_
              refine Z_iload (pc' := 161) dX8_belongs_159 rfl rfl ?_
              refine Z_imul (pc' := 162) dX8_belongs_161 rfl ?_
              refine Z_iload (pc' := 164) dX8_belongs_162 rfl rfl ?_
              refine Z_imul (pc' := 165) dX8_belongs_164 rfl ?_
              refine Z_iload (pc' := 167) dX8_belongs_165 rfl rfl ?_
              refine Z_imul (pc' := 168) dX8_belongs_167 rfl ?_
              refine Z_iadd (pc' := 169) dX8_belongs_168 rfl ?_
              refine Z_iload (pc' := 171) dX8_belongs_169 rfl rfl ?_
              refine Z_iload (pc' := 173) dX8_belongs_171 rfl rfl ?_
              refine Z_imul (pc' := 174) dX8_belongs_173 rfl ?_
              refine Z_iload (pc' := 176) dX8_belongs_174 rfl rfl ?_
              refine Z_imul (pc' := 177) dX8_belongs_176 rfl ?_
              refine Z_iload (pc' := 179) dX8_belongs_177 rfl rfl ?_
              refine Z_imul (pc' := 180) dX8_belongs_179 rfl ?_
              have h30 := G.1
              have G := G.2
              have h31 := G.1
              have G := G.2
              refine Z_icmp_le (tgt := 206) (pc' := 183) dX8_belongs_180 (by decide) rfl h30 h31 (fun c32 => ?_) (fun c32 => ?_)
              · refine Z_iconst (pc' := 207) dX8_belongs_206 rfl ?_
                refine Z_goto (tgt := 211) dX8_belongs_207 (by decide) ?_
                exact K _ (by rw [if_neg c28, if_pos c29, if_pos c32])
              · have G := G.2 c32
                refine Z_iload (pc' := 185) dX8_belongs_183 rfl rfl ?_
                refine Z_iconst (pc' := 186) dX8_belongs_185 rfl ?_
                refine Z_icmp_ne (tgt := 210) (pc' := 189) dX8_belongs_186 (by decide) rfl h23 (z_lit rfl) (fun c33 => ?_) (fun c33 => ?_)
                · refine Z_iconst (pc' := 211) dX8_belongs_210 rfl ?_
                  exact K _ (by rw [if_neg c28, if_pos c29, if_neg c32, if_neg c33])
                · have G := G.1 c33
                  refine Z_iload (pc' := 191) dX8_belongs_189 rfl rfl ?_
                  refine Z_iload (pc' := 193) dX8_belongs_191 rfl rfl ?_
                  refine Z_imul (pc' := 194) dX8_belongs_193 rfl ?_
                  refine Z_iload (pc' := 196) dX8_belongs_194 rfl rfl ?_
                  refine Z_iload_n (pc' := 197) dX8_belongs_196 rfl rfl ?_
                  refine Z_iload (pc' := 199) dX8_belongs_197 rfl rfl ?_
                  refine Z_isub (pc' := 200) dX8_belongs_199 rfl ?_
                  refine Z_iconst (pc' := 201) dX8_belongs_200 rfl ?_
                  refine Z_iadd (pc' := 202) dX8_belongs_201 rfl ?_
                  refine Z_imul (pc' := 203) dX8_belongs_202 rfl ?_
                  have h34 := G.1
                  have G := G.2
                  have h35 := G
                  refine Z_icmp_gt (tgt := 210) (pc' := 206) dX8_belongs_203 (by decide) rfl h34 h35 (fun c36 => ?_) (fun c36 => ?_)
                  · refine Z_iconst (pc' := 211) dX8_belongs_210 rfl ?_
                    exact K _ (by rw [if_neg c28, if_pos c29, if_neg c32, if_pos c33, if_pos c36])
                  · refine Z_iconst (pc' := 207) dX8_belongs_206 rfl ?_
                    refine Z_goto (tgt := 211) dX8_belongs_207 (by decide) ?_
                    exact K _ (by rw [if_neg c28, if_pos c29, if_neg c32, if_pos c33, if_neg c36])
    · have P := P.1 c16
      refine Z_iconst (pc' := 55) dX8_belongs_54 rfl ?_
      exact Z_zreturn dX8_belongs_55 rfl (Or.inl rfl) (Nat.le_refl 0) (Nat.le_refl 0) P
abbrev zX8_free_5 (d : Nat) (Q : Int → zMem → Prop) (x1 : Int) (x2 : Int) (x3 : Int) (x4 : Int) (μ : zMem) : Prop := Z SS none mX8_free (d + 1) 0 0 (qI Q) 5 [some (.ref 54), some (vi x1), some (vi x2), some (vi x3), some (vi x4)] [] μ 0 0
theorem bX8_free {d : Nat} {Q : Int → zMem → Prop} {μ : zMem} {x1 : Int} {x2 : Int} (P : zX8_free_5 d Q x1 x2 0 0 μ) : kX8_free (d + 1) x1 x2 μ Q := by
  refine Cl_of rfl (Nat.le_of_ble_eq_true rfl) rfl ?_
  show Z SS none mX8_free (d + 1) 0 0 (qI Q) 0 [some (.ref 54), some (vi x1), some (vi x2), none, none] [] μ 0 0
  refine Z_iconst (pc' := 1) dX8_free_0 rfl ?_
  refine Z_istore_n (pc' := 2) (lo' := [some (.ref 54), some (vi x1), some (vi x2), some (vi 0), none]) dX8_free_1 rfl (by decide) rfl ?_
  refine Z_iconst (pc' := 3) dX8_free_2 rfl ?_
  refine Z_istore (pc' := 5) (lo' := [some (.ref 54), some (vi x1), some (vi x2), some (vi 0), some (vi 0)]) dX8_free_3 rfl (by decide) rfl ?_
  exact P
theorem bX8_free_5 {d : Nat} {Q : Int → zMem → Prop} {μ : zMem} {x1 : Int} {x2 : Int} {x3 : Int} {x4 : Int} (P : (zIn x4) ∧ ((zIn (gI μ 55 0)) ∧ (((gI μ 55 0) ≤ x4 → ((zIn x3) ∧ (((zIn (x3 - (x3.tdiv 2) * 2))) ∧ (Q (if (x3 - (x3.tdiv 2) * 2) = 1 then 1 else 0) μ)))) ∧ (¬ ((gI μ 55 0) ≤ x4) → (kX8_belongs d x4 x1 x2 μ (fun (r9 : Int) (μ8 : zMem) => ((zIn r9)) ∧ (zX8_free_5 d Q x1 x2 (x3 + (if r9 = 0 then 0 else 1)) (x4 + 1) μ8))))))) : zX8_free_5 d Q x1 x2 x3 x4 μ := by
  refine Z_iload (pc' := 7) dX8_free_5 rfl rfl ?_
  refine Z_aload_n (pc' := 8) dX8_free_7 rfl rfl ?_
  refine Z_getR (q := 55) (pc' := 11) dX8_free_8 rfl fX8_7 rfl (Or.inl dd_54) (Or.inl rr_54_0) ?_
  refine Z_iconst (pc' := 12) dX8_free_11 rfl ?_
  refine Z_iaload (pc' := 13) dX8_free_12 rfl (Or.inl dd_55) (Nat.le_of_ble_eq_true rfl) (by decide) (by decide) ?_
  have h1 := P.1
  have P := P.2
  have h2 := P.1
  have P := P.2
  refine Z_icmp_ge (tgt := 41) (pc' := 16) dX8_free_13 (by decide) rfl h1 h2 (fun c3 => ?_) (fun c3 => ?_)
  · have P := P.1 c3
    refine Z_iload_n (pc' := 42) dX8_free_41 rfl rfl ?_
    refine Z_iconst (pc' := 43) dX8_free_42 rfl ?_
    have h4 := P.1
    have P := P.2
    refine Z_irem (pc' := 44) dX8_free_43 rfl h4 (z_lit rfl) (by decide) ?_
    refine Z_iconst (pc' := 45) dX8_free_44 rfl ?_
    have K : ∀ t7 : Int, t7 = (if (x3 - (x3.tdiv 2) * 2) = 1 then 1 else 0) → Z SS none mX8_free (d + 1) 0 0 (qI Q) 53 [some (.ref 54), some (vi x1), some (vi x2), some (vi x3), some (vi x4)] [vi t7] μ 0 0 := by
      rintro _ rfl
      have P := P.2
      exact Z_zreturn dX8_free_53 rfl (by (repeat' split) <;> simp) (Nat.le_refl 0) (Nat.le_refl 0) P
    have G := P.1
    have h5 := G
    refine Z_icmp_ne (tgt := 52) (pc' := 48) dX8_free_45 (by decide) rfl h5 (z_lit rfl) (fun c6 => ?_) (fun c6 => ?_)
    · refine Z_iconst (pc' := 53) dX8_free_52 rfl ?_
      exact K _ (by rw [if_neg c6])
    · refine Z_iconst (pc' := 49) dX8_free_48 rfl ?_
      refine Z_goto (tgt := 53) dX8_free_49 (by decide) ?_
      exact K _ (by rw [if_pos c6])
  · have P := P.2 c3
    refine Z_iload_n (pc' := 17) dX8_free_16 rfl rfl ?_
    refine Z_aload_n (pc' := 18) dX8_free_17 rfl rfl ?_
    refine Z_iload (pc' := 20) dX8_free_18 rfl rfl ?_
    refine Z_iload_n (pc' := 21) dX8_free_20 rfl rfl ?_
    refine Z_iload_n (pc' := 22) dX8_free_21 rfl rfl ?_
    refine Z_callV0 (M' := mX8_belongs) (pc' := 25) (st := [vi x3]) [vi x4, vi x1, vi x2] dX8_free_22 rfl vX8_belongs lX8_61 (Or.inl dd_54) rfl (Nat.le_of_ble_eq_true rfl) (Nat.le_refl 0) (Nat.le_refl 0) ?_
    refine Cl_mono P ?_
    rintro _ μ8 ⟨r9, rfl, P⟩
    show Z SS none mX8_free (d + 1) 0 0 (qI Q) 25 [some (.ref 54), some (vi x1), some (vi x2), some (vi x3), some (vi x4)] [vi r9, vi x3] μ8 0 0
    have K : ∀ t12 : Int, t12 = (if r9 = 0 then 0 else 1) → Z SS none mX8_free (d + 1) 0 0 (qI Q) 33 [some (.ref 54), some (vi x1), some (vi x2), some (vi x3), some (vi x4)] [vi t12, vi x3] μ8 0 0 := by
      rintro _ rfl
      have P := P.2
      refine Z_iadd (pc' := 34) dX8_free_33 rfl ?_
      refine Z_istore_n (pc' := 35) (lo' := [some (.ref 54), some (vi x1), some (vi x2), some (vi (x3 + (if r9 = 0 then 0 else 1))), some (vi x4)]) dX8_free_34 rfl (by decide) rfl ?_
      refine Z_iinc (pc' := 38) (lo' := [some (.ref 54), some (vi x1), some (vi x2), some (vi (x3 + (if r9 = 0 then 0 else 1))), some (vi (x4 + 1))]) dX8_free_35 rfl (by decide) rfl rfl ?_
      refine Z_goto (tgt := 5) dX8_free_38 (by decide) ?_
      exact P
    have G := P.1
    have h10 := G
    refine Z_if_eq (tgt := 32) (pc' := 28) dX8_free_25 (by decide) rfl h10 (fun c11 => ?_) (fun c11 => ?_)
    · refine Z_iconst (pc' := 33) dX8_free_32 rfl ?_
      exact K _ (by rw [if_pos c11])
    · refine Z_iconst (pc' := 29) dX8_free_28 rfl ?_
      refine Z_goto (tgt := 33) dX8_free_29 (by decide) ?_
      exact K _ (by rw [if_neg c11])
abbrev zX8_freeCells_4 (d : Nat) (Q : Int → zMem → Prop) (x1 : Int) (x2 : Int) (μ : zMem) : Prop := Z SS none mX8_freeCells (d + 1) 0 0 (qI Q) 4 [some (.ref 54), some (vi x1), some (vi x2), none] [] μ 0 0
abbrev zX8_freeCells_12 (d : Nat) (Q : Int → zMem → Prop) (x1 : Int) (x2 : Int) (x3 : Int) (μ : zMem) : Prop := Z SS none mX8_freeCells (d + 1) 0 0 (qI Q) 12 [some (.ref 54), some (vi x1), some (vi x2), some (vi x3)] [] μ 0 0
theorem bX8_freeCells {d : Nat} {Q : Int → zMem → Prop} {μ : zMem}  (P : zX8_freeCells_4 d Q 0 0 μ) : kX8_freeCells (d + 1) μ Q := by
  refine Cl_of rfl (Nat.le_of_ble_eq_true rfl) rfl ?_
  show Z SS none mX8_freeCells (d + 1) 0 0 (qI Q) 0 [some (.ref 54), none, none, none] [] μ 0 0
  refine Z_iconst (pc' := 1) dX8_freeCells_0 rfl ?_
  refine Z_istore_n (pc' := 2) (lo' := [some (.ref 54), some (vi 0), none, none]) dX8_freeCells_1 rfl (by decide) rfl ?_
  refine Z_iconst (pc' := 3) dX8_freeCells_2 rfl ?_
  refine Z_istore_n (pc' := 4) (lo' := [some (.ref 54), some (vi 0), some (vi 0), none]) dX8_freeCells_3 rfl (by decide) rfl ?_
  exact P
theorem bX8_freeCells_4 {d : Nat} {Q : Int → zMem → Prop} {μ : zMem} {x1 : Int} {x2 : Int} (P : (zIn x2) ∧ ((48 ≤ x2 → (Q x1 μ)) ∧ (¬ (48 ≤ x2) → (zX8_freeCells_12 d Q x1 x2 0 μ)))) : zX8_freeCells_4 d Q x1 x2 μ := by
  refine Z_iload_n (pc' := 5) dX8_freeCells_4 rfl rfl ?_
  refine Z_bipush (pc' := 7) dX8_freeCells_5 rfl rfl ?_
  have h1 := P.1
  have P := P.2
  refine Z_icmp_ge (tgt := 47) (pc' := 10) dX8_freeCells_7 (by decide) rfl h1 (z_lit rfl) (fun c2 => ?_) (fun c2 => ?_)
  · have P := P.1 c2
    refine Z_iload_n (pc' := 48) dX8_freeCells_47 rfl rfl ?_
    exact Z_ireturn dX8_freeCells_48 rfl (Nat.le_refl 0) (Nat.le_refl 0) P
  · have P := P.2 c2
    refine Z_iconst (pc' := 11) dX8_freeCells_10 rfl ?_
    refine Z_istore_n (pc' := 12) (lo' := [some (.ref 54), some (vi x1), some (vi x2), some (vi 0)]) dX8_freeCells_11 rfl (by decide) rfl ?_
    exact P
theorem bX8_freeCells_12 {d : Nat} {Q : Int → zMem → Prop} {μ : zMem} {x1 : Int} {x2 : Int} {x3 : Int} (P : (zIn x3) ∧ ((36 ≤ x3 → (zX8_freeCells_4 d Q x1 (x2 + 1) μ)) ∧ (¬ (36 ≤ x3) → (kX8_free d x2 x3 μ (fun (r4 : Int) (μ3 : zMem) => ((zIn r4)) ∧ (zX8_freeCells_12 d Q (x1 + (if r4 = 0 then 0 else 1)) x2 (x3 + 1) μ3)))))) : zX8_freeCells_12 d Q x1 x2 x3 μ := by
  refine Z_iload_n (pc' := 13) dX8_freeCells_12 rfl rfl ?_
  refine Z_bipush (pc' := 15) dX8_freeCells_13 rfl rfl ?_
  have h1 := P.1
  have P := P.2
  refine Z_icmp_ge (tgt := 41) (pc' := 18) dX8_freeCells_15 (by decide) rfl h1 (z_lit rfl) (fun c2 => ?_) (fun c2 => ?_)
  · have P := P.1 c2
    refine Z_iinc (pc' := 44) (lo' := [some (.ref 54), some (vi x1), some (vi (x2 + 1)), some (vi x3)]) dX8_freeCells_41 rfl (by decide) rfl rfl ?_
    refine Z_goto (tgt := 4) dX8_freeCells_44 (by decide) ?_
    refine Z_wk [true, true, true, false] rfl ?_
    exact P
  · have P := P.2 c2
    refine Z_iload_n (pc' := 19) dX8_freeCells_18 rfl rfl ?_
    refine Z_aload_n (pc' := 20) dX8_freeCells_19 rfl rfl ?_
    refine Z_iload_n (pc' := 21) dX8_freeCells_20 rfl rfl ?_
    refine Z_iload_n (pc' := 22) dX8_freeCells_21 rfl rfl ?_
    refine Z_callV0 (M' := mX8_free) (pc' := 25) (st := [vi x1]) [vi x2, vi x3] dX8_freeCells_22 rfl vX8_free lX8_64 (Or.inl dd_54) rfl (Nat.le_of_ble_eq_true rfl) (Nat.le_refl 0) (Nat.le_refl 0) ?_
    refine Cl_mono P ?_
    rintro _ μ3 ⟨r4, rfl, P⟩
    show Z SS none mX8_freeCells (d + 1) 0 0 (qI Q) 25 [some (.ref 54), some (vi x1), some (vi x2), some (vi x3)] [vi r4, vi x1] μ3 0 0
    have K : ∀ t7 : Int, t7 = (if r4 = 0 then 0 else 1) → Z SS none mX8_freeCells (d + 1) 0 0 (qI Q) 33 [some (.ref 54), some (vi x1), some (vi x2), some (vi x3)] [vi t7, vi x1] μ3 0 0 := by
      rintro _ rfl
      have P := P.2
      refine Z_iadd (pc' := 34) dX8_freeCells_33 rfl ?_
      refine Z_istore_n (pc' := 35) (lo' := [some (.ref 54), some (vi (x1 + (if r4 = 0 then 0 else 1))), some (vi x2), some (vi x3)]) dX8_freeCells_34 rfl (by decide) rfl ?_
      refine Z_iinc (pc' := 38) (lo' := [some (.ref 54), some (vi (x1 + (if r4 = 0 then 0 else 1))), some (vi x2), some (vi (x3 + 1))]) dX8_freeCells_35 rfl (by decide) rfl rfl ?_
      refine Z_goto (tgt := 12) dX8_freeCells_38 (by decide) ?_
      exact P
    have G := P.1
    have h5 := G
    refine Z_if_eq (tgt := 32) (pc' := 28) dX8_freeCells_25 (by decide) rfl h5 (fun c6 => ?_) (fun c6 => ?_)
    · refine Z_iconst (pc' := 33) dX8_freeCells_32 rfl ?_
      exact K _ (by rw [if_pos c6])
    · refine Z_iconst (pc' := 29) dX8_freeCells_28 rfl ?_
      refine Z_goto (tgt := 33) dX8_freeCells_29 (by decide) ?_
      exact K _ (by rw [if_neg c6])
theorem bX8_isShape {d : Nat} {Q : Int → zMem → Prop} {μ : zMem} {x1 : Int} (P : kX8_in d x1 0 ((gI μ 55 0) - 1) μ (fun (r2 : Int) (μ1 : zMem) => (r2 = 0 ∨ r2 = 1) ∧ (Q r2 μ1))) : kX8_isShape (d + 1) x1 μ Q := by
  refine Cl_of rfl (Nat.le_of_ble_eq_true rfl) rfl ?_
  show Z SS none mX8_isShape (d + 1) 0 0 (qI Q) 0 [some (.ref 54), some (vi x1)] [] μ 0 0
  refine Z_iload_n (pc' := 1) dX8_isShape_0 rfl rfl ?_
  refine Z_iconst (pc' := 2) dX8_isShape_1 rfl ?_
  refine Z_aload_n (pc' := 3) dX8_isShape_2 rfl rfl ?_
  refine Z_getR (q := 55) (pc' := 6) dX8_isShape_3 rfl fX8_7 rfl (Or.inl dd_54) (Or.inl rr_54_0) ?_
  refine Z_iconst (pc' := 7) dX8_isShape_6 rfl ?_
  refine Z_iaload (pc' := 8) dX8_isShape_7 rfl (Or.inl dd_55) (Nat.le_of_ble_eq_true rfl) (by decide) (by decide) ?_
  refine Z_iconst (pc' := 9) dX8_isShape_8 rfl ?_
  refine Z_isub (pc' := 10) dX8_isShape_9 rfl ?_
  refine Z_callS0 (M' := mX8_in) (pc' := 13) (st := []) [vi x1, vi 0, vi ((gI μ 55 0) - 1)] dX8_isShape_10 rfl sX8_in lX8_53 rfl (Nat.le_of_ble_eq_true rfl) (Nat.le_refl 0) (Nat.le_refl 0) ?_
  refine Cl_mono P ?_
  rintro _ μ1 ⟨r2, rfl, P⟩
  show Z SS none mX8_isShape (d + 1) 0 0 (qI Q) 13 [some (.ref 54), some (vi x1)] [vi r2] μ1 0 0
  have h3 := P.1
  have P := P.2
  exact Z_zreturn dX8_isShape_13 rfl h3 (Nat.le_refl 0) (Nat.le_refl 0) P
theorem bX8_addShape {d : Nat} {Q : Int → zMem → Prop} {μ : zMem} {x1 : Int} {x2 : Int} {x3 : Int} {x4 : Int} {x5 : Int} (P : kX8_in d x1 0 3 μ (fun (r2 : Int) (μ1 : zMem) => (zIn r2) ∧ ((r2 = 0 → (Q (-3) μ1)) ∧ (¬ (r2 = 0) → (kX8_in d x2 0 47 μ1 (fun (r6 : Int) (μ5 : zMem) => (zIn r6) ∧ ((r6 = 0 → (Q (-3) μ5)) ∧ (¬ (r6 = 0) → (kX8_in d x3 0 35 μ5 (fun (r10 : Int) (μ9 : zMem) => (zIn r10) ∧ ((r10 = 0 → (Q (-3) μ9)) ∧ (¬ (r10 = 0) → (kX8_in d x4 x2 47 μ9 (fun (r14 : Int) (μ13 : zMem) => (zIn r14) ∧ ((r14 = 0 → (Q (-3) μ13)) ∧ (¬ (r14 = 0) → (kX8_in d x5 x3 35 μ13 (fun (r18 : Int) (μ17 : zMem) => (zIn r18) ∧ ((r18 = 0 → (Q (-3) μ17)) ∧ (¬ (r18 = 0) → ((zIn (gI μ17 55 0)) ∧ (((gI μ17 55 0) = 6 → (Q (-5) μ17)) ∧ (¬ ((gI μ17 55 0) = 6) → (kX8_records d μ17 (fun μ23 : zMem => (0 ≤ (1 + (5 * (gI μ23 55 0)))) ∧ (((1 + (5 * (gI μ23 55 0))) < 1285) ∧ ((0 ≤ ((1 + (5 * (gI μ23 55 0))) + 1)) ∧ ((((1 + (5 * (gI μ23 55 0))) + 1) < 1285) ∧ ((0 ≤ ((1 + (5 * (gI μ23 55 0))) + 2)) ∧ ((((1 + (5 * (gI μ23 55 0))) + 2) < 1285) ∧ ((0 ≤ ((1 + (5 * (gI μ23 55 0))) + 3)) ∧ ((((1 + (5 * (gI μ23 55 0))) + 3) < 1285) ∧ ((0 ≤ ((1 + (5 * (gI μ23 55 0))) + 4)) ∧ ((((1 + (5 * (gI μ23 55 0))) + 4) < 1285) ∧ (Q ((gI (sI (sI (sI (sI (sI (sI μ23 55 (1 + (5 * (gI μ23 55 0))) x1) 55 ((1 + (5 * (gI μ23 55 0))) + 1) x2) 55 ((1 + (5 * (gI μ23 55 0))) + 2) x3) 55 ((1 + (5 * (gI μ23 55 0))) + 3) x4) 55 ((1 + (5 * (gI μ23 55 0))) + 4) x5) 55 0 ((gI (sI (sI (sI (sI (sI μ23 55 (1 + (5 * (gI μ23 55 0))) x1) 55 ((1 + (5 * (gI μ23 55 0))) + 1) x2) 55 ((1 + (5 * (gI μ23 55 0))) + 2) x3) 55 ((1 + (5 * (gI μ23 55 0))) + 3) x4) 55 ((1 + (5 * (gI μ23 55 0))) + 4) x5) 55 0) + 1)) 55 0) - 1) (sI (sI (sI (sI (sI (sI μ23 55 (1 + (5 * (gI μ23 55 0))) x1) 55 ((1 + (5 * (gI μ23 55 0))) + 1) x2) 55 ((1 + (5 * (gI μ23 55 0))) + 2) x3) 55 ((1 + (5 * (gI μ23 55 0))) + 3) x4) 55 ((1 + (5 * (gI μ23 55 0))) + 4) x5) 55 0 ((gI (sI (sI (sI (sI (sI μ23 55 (1 + (5 * (gI μ23 55 0))) x1) 55 ((1 + (5 * (gI μ23 55 0))) + 1) x2) 55 ((1 + (5 * (gI μ23 55 0))) + 2) x3) 55 ((1 + (5 * (gI μ23 55 0))) + 3) x4) 55 ((1 + (5 * (gI μ23 55 0))) + 4) x5) 55 0) + 1))))))))))))))))))))))))))))))))))))) : kX8_addShape (d + 1) x1 x2 x3 x4 x5 μ Q := by
  refine Cl_of rfl (Nat.le_of_ble_eq_true rfl) rfl ?_
  show Z SS none mX8_addShape (d + 1) 0 0 (qI Q) 0 [some (.ref 54), some (vi x1), some (vi x2), some (vi x3), some (vi x4), some (vi x5), none] [] μ 0 0
  refine Z_iload_n (pc' := 1) dX8_addShape_0 rfl rfl ?_
  refine Z_iconst (pc' := 2) dX8_addShape_1 rfl ?_
  refine Z_iconst (pc' := 3) dX8_addShape_2 rfl ?_
  refine Z_callS0 (M' := mX8_in) (pc' := 6) (st := []) [vi x1, vi 0, vi 3] dX8_addShape_3 rfl sX8_in lX8_53 rfl (Nat.le_of_ble_eq_true rfl) (Nat.le_refl 0) (Nat.le_refl 0) ?_
  refine Cl_mono P ?_
  rintro _ μ1 ⟨r2, rfl, P⟩
  show Z SS none mX8_addShape (d + 1) 0 0 (qI Q) 6 [some (.ref 54), some (vi x1), some (vi x2), some (vi x3), some (vi x4), some (vi x5), none] [vi r2] μ1 0 0
  have h3 := P.1
  have P := P.2
  refine Z_if_eq (tgt := 51) (pc' := 9) dX8_addShape_6 (by decide) rfl h3 (fun c4 => ?_) (fun c4 => ?_)
  · have P := P.1 c4
    refine Z_bipush (pc' := 53) dX8_addShape_51 rfl rfl ?_
    exact Z_ireturn dX8_addShape_53 rfl (Nat.le_refl 0) (Nat.le_refl 0) P
  · have P := P.2 c4
    refine Z_iload_n (pc' := 10) dX8_addShape_9 rfl rfl ?_
    refine Z_iconst (pc' := 11) dX8_addShape_10 rfl ?_
    refine Z_bipush (pc' := 13) dX8_addShape_11 rfl rfl ?_
    refine Z_callS0 (M' := mX8_in) (pc' := 16) (st := []) [vi x2, vi 0, vi 47] dX8_addShape_13 rfl sX8_in lX8_53 rfl (Nat.le_of_ble_eq_true rfl) (Nat.le_refl 0) (Nat.le_refl 0) ?_
    refine Cl_mono P ?_
    rintro _ μ5 ⟨r6, rfl, P⟩
    show Z SS none mX8_addShape (d + 1) 0 0 (qI Q) 16 [some (.ref 54), some (vi x1), some (vi x2), some (vi x3), some (vi x4), some (vi x5), none] [vi r6] μ5 0 0
    have h7 := P.1
    have P := P.2
    refine Z_if_eq (tgt := 51) (pc' := 19) dX8_addShape_16 (by decide) rfl h7 (fun c8 => ?_) (fun c8 => ?_)
    · have P := P.1 c8
      refine Z_bipush (pc' := 53) dX8_addShape_51 rfl rfl ?_
      exact Z_ireturn dX8_addShape_53 rfl (Nat.le_refl 0) (Nat.le_refl 0) P
    · have P := P.2 c8
      refine Z_iload_n (pc' := 20) dX8_addShape_19 rfl rfl ?_
      refine Z_iconst (pc' := 21) dX8_addShape_20 rfl ?_
      refine Z_bipush (pc' := 23) dX8_addShape_21 rfl rfl ?_
      refine Z_callS0 (M' := mX8_in) (pc' := 26) (st := []) [vi x3, vi 0, vi 35] dX8_addShape_23 rfl sX8_in lX8_53 rfl (Nat.le_of_ble_eq_true rfl) (Nat.le_refl 0) (Nat.le_refl 0) ?_
      refine Cl_mono P ?_
      rintro _ μ9 ⟨r10, rfl, P⟩
      show Z SS none mX8_addShape (d + 1) 0 0 (qI Q) 26 [some (.ref 54), some (vi x1), some (vi x2), some (vi x3), some (vi x4), some (vi x5), none] [vi r10] μ9 0 0
      have h11 := P.1
      have P := P.2
      refine Z_if_eq (tgt := 51) (pc' := 29) dX8_addShape_26 (by decide) rfl h11 (fun c12 => ?_) (fun c12 => ?_)
      · have P := P.1 c12
        refine Z_bipush (pc' := 53) dX8_addShape_51 rfl rfl ?_
        exact Z_ireturn dX8_addShape_53 rfl (Nat.le_refl 0) (Nat.le_refl 0) P
      · have P := P.2 c12
        refine Z_iload (pc' := 31) dX8_addShape_29 rfl rfl ?_
        refine Z_iload_n (pc' := 32) dX8_addShape_31 rfl rfl ?_
        refine Z_bipush (pc' := 34) dX8_addShape_32 rfl rfl ?_
        refine Z_callS0 (M' := mX8_in) (pc' := 37) (st := []) [vi x4, vi x2, vi 47] dX8_addShape_34 rfl sX8_in lX8_53 rfl (Nat.le_of_ble_eq_true rfl) (Nat.le_refl 0) (Nat.le_refl 0) ?_
        refine Cl_mono P ?_
        rintro _ μ13 ⟨r14, rfl, P⟩
        show Z SS none mX8_addShape (d + 1) 0 0 (qI Q) 37 [some (.ref 54), some (vi x1), some (vi x2), some (vi x3), some (vi x4), some (vi x5), none] [vi r14] μ13 0 0
        have h15 := P.1
        have P := P.2
        refine Z_if_eq (tgt := 51) (pc' := 40) dX8_addShape_37 (by decide) rfl h15 (fun c16 => ?_) (fun c16 => ?_)
        · have P := P.1 c16
          refine Z_bipush (pc' := 53) dX8_addShape_51 rfl rfl ?_
          exact Z_ireturn dX8_addShape_53 rfl (Nat.le_refl 0) (Nat.le_refl 0) P
        · have P := P.2 c16
          refine Z_iload (pc' := 42) dX8_addShape_40 rfl rfl ?_
          refine Z_iload_n (pc' := 43) dX8_addShape_42 rfl rfl ?_
          refine Z_bipush (pc' := 45) dX8_addShape_43 rfl rfl ?_
          refine Z_callS0 (M' := mX8_in) (pc' := 48) (st := []) [vi x5, vi x3, vi 35] dX8_addShape_45 rfl sX8_in lX8_53 rfl (Nat.le_of_ble_eq_true rfl) (Nat.le_refl 0) (Nat.le_refl 0) ?_
          refine Cl_mono P ?_
          rintro _ μ17 ⟨r18, rfl, P⟩
          show Z SS none mX8_addShape (d + 1) 0 0 (qI Q) 48 [some (.ref 54), some (vi x1), some (vi x2), some (vi x3), some (vi x4), some (vi x5), none] [vi r18] μ17 0 0
          have h19 := P.1
          have P := P.2
          refine Z_if_ne (tgt := 54) (pc' := 51) dX8_addShape_48 (by decide) rfl h19 (fun c20 => ?_) (fun c20 => ?_)
          · have P := P.2 c20
            refine Z_aload_n (pc' := 55) dX8_addShape_54 rfl rfl ?_
            refine Z_getR (q := 55) (pc' := 58) dX8_addShape_55 rfl fX8_7 rfl (Or.inl dd_54) (Or.inl rr_54_0) ?_
            refine Z_iconst (pc' := 59) dX8_addShape_58 rfl ?_
            refine Z_iaload (pc' := 60) dX8_addShape_59 rfl (Or.inl dd_55) (Nat.le_of_ble_eq_true rfl) (by decide) (by decide) ?_
            refine Z_bipush (pc' := 62) dX8_addShape_60 rfl rfl ?_
            have h21 := P.1
            have P := P.2
            refine Z_icmp_ne (tgt := 68) (pc' := 65) dX8_addShape_62 (by decide) rfl h21 (z_lit rfl) (fun c22 => ?_) (fun c22 => ?_)
            · have P := P.2 c22
              refine Z_aload_n (pc' := 69) dX8_addShape_68 rfl rfl ?_
              refine Z_callV0 (M' := mX8_records) (pc' := 72) (st := []) [] dX8_addShape_69 rfl vX8_records lX8_68 (Or.inl dd_54) rfl (Nat.le_of_ble_eq_true rfl) (Nat.le_refl 0) (Nat.le_refl 0) ?_
              refine Cl_mono P ?_
              rintro _ μ23 ⟨rfl, P⟩
              show Z SS none mX8_addShape (d + 1) 0 0 (qI Q) 72 [some (.ref 54), some (vi x1), some (vi x2), some (vi x3), some (vi x4), some (vi x5), none] [] μ23 0 0
              refine Z_iconst (pc' := 73) dX8_addShape_72 rfl ?_
              refine Z_iconst (pc' := 74) dX8_addShape_73 rfl ?_
              refine Z_aload_n (pc' := 75) dX8_addShape_74 rfl rfl ?_
              refine Z_getR (q := 55) (pc' := 78) dX8_addShape_75 rfl fX8_7 rfl (Or.inl dd_54) (Or.inl rr_54_0) ?_
              refine Z_iconst (pc' := 79) dX8_addShape_78 rfl ?_
              refine Z_iaload (pc' := 80) dX8_addShape_79 rfl (Or.inl dd_55) (Nat.le_of_ble_eq_true rfl) (by decide) (by decide) ?_
              refine Z_imul (pc' := 81) dX8_addShape_80 rfl ?_
              refine Z_iadd (pc' := 82) dX8_addShape_81 rfl ?_
              refine Z_istore (pc' := 84) (lo' := [some (.ref 54), some (vi x1), some (vi x2), some (vi x3), some (vi x4), some (vi x5), some (vi (1 + (5 * (gI μ23 55 0))))]) dX8_addShape_82 rfl (by decide) rfl ?_
              refine Z_aload_n (pc' := 85) dX8_addShape_84 rfl rfl ?_
              refine Z_getR (q := 55) (pc' := 88) dX8_addShape_85 rfl fX8_7 rfl (Or.inl dd_54) (Or.inl rr_54_0) ?_
              refine Z_iload (pc' := 90) dX8_addShape_88 rfl rfl ?_
              refine Z_iload_n (pc' := 91) dX8_addShape_90 rfl rfl ?_
              have h24 := P.1
              have P := P.2
              have h25 := P.1
              have P := P.2
              refine Z_iastore (pc' := 92) dX8_addShape_91 rfl (Or.inl dd_55) (Nat.le_of_ble_eq_true rfl) h24 h25 ?_
              refine Z_aload_n (pc' := 93) dX8_addShape_92 rfl rfl ?_
              refine Z_getR (q := 55) (pc' := 96) dX8_addShape_93 rfl fX8_7 rfl (Or.inl dd_54) (Or.inl rr_54_0) ?_
              refine Z_iload (pc' := 98) dX8_addShape_96 rfl rfl ?_
              refine Z_iconst (pc' := 99) dX8_addShape_98 rfl ?_
              refine Z_iadd (pc' := 100) dX8_addShape_99 rfl ?_
              refine Z_iload_n (pc' := 101) dX8_addShape_100 rfl rfl ?_
              have h26 := P.1
              have P := P.2
              have h27 := P.1
              have P := P.2
              refine Z_iastore (pc' := 102) dX8_addShape_101 rfl (Or.inl dd_55) (Nat.le_of_ble_eq_true rfl) h26 h27 ?_
              refine Z_aload_n (pc' := 103) dX8_addShape_102 rfl rfl ?_
              refine Z_getR (q := 55) (pc' := 106) dX8_addShape_103 rfl fX8_7 rfl (Or.inl dd_54) (Or.inl rr_54_0) ?_
              refine Z_iload (pc' := 108) dX8_addShape_106 rfl rfl ?_
              refine Z_iconst (pc' := 109) dX8_addShape_108 rfl ?_
              refine Z_iadd (pc' := 110) dX8_addShape_109 rfl ?_
              refine Z_iload_n (pc' := 111) dX8_addShape_110 rfl rfl ?_
              have h28 := P.1
              have P := P.2
              have h29 := P.1
              have P := P.2
              refine Z_iastore (pc' := 112) dX8_addShape_111 rfl (Or.inl dd_55) (Nat.le_of_ble_eq_true rfl) h28 h29 ?_
              refine Z_aload_n (pc' := 113) dX8_addShape_112 rfl rfl ?_
              refine Z_getR (q := 55) (pc' := 116) dX8_addShape_113 rfl fX8_7 rfl (Or.inl dd_54) (Or.inl rr_54_0) ?_
              refine Z_iload (pc' := 118) dX8_addShape_116 rfl rfl ?_
              refine Z_iconst (pc' := 119) dX8_addShape_118 rfl ?_
              refine Z_iadd (pc' := 120) dX8_addShape_119 rfl ?_
              refine Z_iload (pc' := 122) dX8_addShape_120 rfl rfl ?_
              have h30 := P.1
              have P := P.2
              have h31 := P.1
              have P := P.2
              refine Z_iastore (pc' := 123) dX8_addShape_122 rfl (Or.inl dd_55) (Nat.le_of_ble_eq_true rfl) h30 h31 ?_
              refine Z_aload_n (pc' := 124) dX8_addShape_123 rfl rfl ?_
              refine Z_getR (q := 55) (pc' := 127) dX8_addShape_124 rfl fX8_7 rfl (Or.inl dd_54) (Or.inl rr_54_0) ?_
              refine Z_iload (pc' := 129) dX8_addShape_127 rfl rfl ?_
              refine Z_iconst (pc' := 130) dX8_addShape_129 rfl ?_
              refine Z_iadd (pc' := 131) dX8_addShape_130 rfl ?_
              refine Z_iload (pc' := 133) dX8_addShape_131 rfl rfl ?_
              have h32 := P.1
              have P := P.2
              have h33 := P.1
              have P := P.2
              refine Z_iastore (pc' := 134) dX8_addShape_133 rfl (Or.inl dd_55) (Nat.le_of_ble_eq_true rfl) h32 h33 ?_
              refine Z_aload_n (pc' := 135) dX8_addShape_134 rfl rfl ?_
              refine Z_getR (q := 55) (pc' := 138) dX8_addShape_135 rfl fX8_7 rfl (Or.inl dd_54) (Or.inl rr_54_0) ?_
              refine Z_iconst (pc' := 139) dX8_addShape_138 rfl ?_
              refine Z_dup2 (pc' := 140) dX8_addShape_139 rfl rfl rfl ?_
              refine Z_iaload (pc' := 141) dX8_addShape_140 rfl (Or.inl dd_55) (Nat.le_of_ble_eq_true rfl) (by decide) (by decide) ?_
              refine Z_iconst (pc' := 142) dX8_addShape_141 rfl ?_
              refine Z_iadd (pc' := 143) dX8_addShape_142 rfl ?_
              refine Z_iastore (pc' := 144) dX8_addShape_143 rfl (Or.inl dd_55) (Nat.le_of_ble_eq_true rfl) (by decide) (by decide) ?_
              refine Z_aload_n (pc' := 145) dX8_addShape_144 rfl rfl ?_
              refine Z_getR (q := 55) (pc' := 148) dX8_addShape_145 rfl fX8_7 rfl (Or.inl dd_54) (Or.inl rr_54_0) ?_
              refine Z_iconst (pc' := 149) dX8_addShape_148 rfl ?_
              refine Z_iaload (pc' := 150) dX8_addShape_149 rfl (Or.inl dd_55) (Nat.le_of_ble_eq_true rfl) (by decide) (by decide) ?_
              refine Z_iconst (pc' := 151) dX8_addShape_150 rfl ?_
              refine Z_isub (pc' := 152) dX8_addShape_151 rfl ?_
              exact Z_ireturn dX8_addShape_152 rfl (Nat.le_refl 0) (Nat.le_refl 0) P
            · have P := P.1 c22
              refine Z_bipush (pc' := 67) dX8_addShape_65 rfl rfl ?_
              exact Z_ireturn dX8_addShape_67 rfl (Nat.le_refl 0) (Nat.le_refl 0) P
          · have P := P.1 c20
            refine Z_bipush (pc' := 53) dX8_addShape_51 rfl rfl ?_
            exact Z_ireturn dX8_addShape_53 rfl (Nat.le_refl 0) (Nat.le_refl 0) P
theorem bX8_moveShape {d : Nat} {Q : Int → zMem → Prop} {μ : zMem} {x1 : Int} {x2 : Int} {x3 : Int} (P : kX8_isShape d x1 μ (fun (r2 : Int) (μ1 : zMem) => (zIn r2) ∧ ((r2 = 0 → (Q (-2) μ1)) ∧ (¬ (r2 = 0) → (kX8_in d x2 (-47) 47 μ1 (fun (r6 : Int) (μ5 : zMem) => (zIn r6) ∧ ((r6 = 0 → (Q (-3) μ5)) ∧ (¬ (r6 = 0) → (kX8_in d x3 (-35) 35 μ5 (fun (r10 : Int) (μ9 : zMem) => (zIn r10) ∧ ((r10 = 0 → (Q (-3) μ9)) ∧ (¬ (r10 = 0) → (kX8_shapeOf d x1 1 μ9 (fun (r14 : Int) (μ13 : zMem) => kX8_in d (r14 + x2) 0 47 μ13 (fun (r16 : Int) (μ15 : zMem) => (zIn r16) ∧ ((r16 = 0 → (Q (-3) μ15)) ∧ (¬ (r16 = 0) → (kX8_shapeOf d x1 3 μ15 (fun (r20 : Int) (μ19 : zMem) => kX8_in d (r20 + x2) 0 47 μ19 (fun (r22 : Int) (μ21 : zMem) => (zIn r22) ∧ ((r22 = 0 → (Q (-3) μ21)) ∧ (¬ (r22 = 0) → (kX8_shapeOf d x1 2 μ21 (fun (r26 : Int) (μ25 : zMem) => kX8_in d (r26 + x3) 0 35 μ25 (fun (r28 : Int) (μ27 : zMem) => (zIn r28) ∧ ((r28 = 0 → (Q (-3) μ27)) ∧ (¬ (r28 = 0) → (kX8_shapeOf d x1 4 μ27 (fun (r32 : Int) (μ31 : zMem) => kX8_in d (r32 + x3) 0 35 μ31 (fun (r34 : Int) (μ33 : zMem) => (zIn r34) ∧ ((r34 = 0 → (Q (-3) μ33)) ∧ (¬ (r34 = 0) → (kX8_records d μ33 (fun μ37 : zMem => (0 ≤ ((1 + (5 * x1)) + 1)) ∧ ((((1 + (5 * x1)) + 1) < 1285) ∧ ((0 ≤ ((1 + (5 * x1)) + 2)) ∧ ((((1 + (5 * x1)) + 2) < 1285) ∧ ((0 ≤ ((1 + (5 * x1)) + 3)) ∧ ((((1 + (5 * x1)) + 3) < 1285) ∧ ((0 ≤ ((1 + (5 * x1)) + 4)) ∧ ((((1 + (5 * x1)) + 4) < 1285) ∧ (kX8_freeCells d (sI (sI (sI (sI μ37 55 ((1 + (5 * x1)) + 1) ((gI μ37 55 ((1 + (5 * x1)) + 1)) + x2)) 55 ((1 + (5 * x1)) + 2) ((gI (sI μ37 55 ((1 + (5 * x1)) + 1) ((gI μ37 55 ((1 + (5 * x1)) + 1)) + x2)) 55 ((1 + (5 * x1)) + 2)) + x3)) 55 ((1 + (5 * x1)) + 3) ((gI (sI (sI μ37 55 ((1 + (5 * x1)) + 1) ((gI μ37 55 ((1 + (5 * x1)) + 1)) + x2)) 55 ((1 + (5 * x1)) + 2) ((gI (sI μ37 55 ((1 + (5 * x1)) + 1) ((gI μ37 55 ((1 + (5 * x1)) + 1)) + x2)) 55 ((1 + (5 * x1)) + 2)) + x3)) 55 ((1 + (5 * x1)) + 3)) + x2)) 55 ((1 + (5 * x1)) + 4) ((gI (sI (sI (sI μ37 55 ((1 + (5 * x1)) + 1) ((gI μ37 55 ((1 + (5 * x1)) + 1)) + x2)) 55 ((1 + (5 * x1)) + 2) ((gI (sI μ37 55 ((1 + (5 * x1)) + 1) ((gI μ37 55 ((1 + (5 * x1)) + 1)) + x2)) 55 ((1 + (5 * x1)) + 2)) + x3)) 55 ((1 + (5 * x1)) + 3) ((gI (sI (sI μ37 55 ((1 + (5 * x1)) + 1) ((gI μ37 55 ((1 + (5 * x1)) + 1)) + x2)) 55 ((1 + (5 * x1)) + 2) ((gI (sI μ37 55 ((1 + (5 * x1)) + 1) ((gI μ37 55 ((1 + (5 * x1)) + 1)) + x2)) 55 ((1 + (5 * x1)) + 2)) + x3)) 55 ((1 + (5 * x1)) + 3)) + x2)) 55 ((1 + (5 * x1)) + 4)) + x3)) (fun (r47 : Int) (μ46 : zMem) => Q r47 μ46))))))))))))))))))))))))))))))))))))))))))) : kX8_moveShape (d + 1) x1 x2 x3 μ Q := by
  refine Cl_of rfl (Nat.le_of_ble_eq_true rfl) rfl ?_
  show Z SS none mX8_moveShape (d + 1) 0 0 (qI Q) 0 [some (.ref 54), some (vi x1), some (vi x2), some (vi x3), none] [] μ 0 0
  refine Z_aload_n (pc' := 1) dX8_moveShape_0 rfl rfl ?_
  refine Z_iload_n (pc' := 2) dX8_moveShape_1 rfl rfl ?_
  refine Z_callV0 (M' := mX8_isShape) (pc' := 5) (st := []) [vi x1] dX8_moveShape_2 rfl vX8_isShape lX8_71 (Or.inl dd_54) rfl (Nat.le_of_ble_eq_true rfl) (Nat.le_refl 0) (Nat.le_refl 0) ?_
  refine Cl_mono P ?_
  rintro _ μ1 ⟨r2, rfl, P⟩
  show Z SS none mX8_moveShape (d + 1) 0 0 (qI Q) 5 [some (.ref 54), some (vi x1), some (vi x2), some (vi x3), none] [vi r2] μ1 0 0
  have h3 := P.1
  have P := P.2
  refine Z_if_ne (tgt := 11) (pc' := 8) dX8_moveShape_5 (by decide) rfl h3 (fun c4 => ?_) (fun c4 => ?_)
  · have P := P.2 c4
    refine Z_iload_n (pc' := 12) dX8_moveShape_11 rfl rfl ?_
    refine Z_bipush (pc' := 14) dX8_moveShape_12 rfl rfl ?_
    refine Z_bipush (pc' := 16) dX8_moveShape_14 rfl rfl ?_
    refine Z_callS0 (M' := mX8_in) (pc' := 19) (st := []) [vi x2, vi (-47), vi 47] dX8_moveShape_16 rfl sX8_in lX8_53 rfl (Nat.le_of_ble_eq_true rfl) (Nat.le_refl 0) (Nat.le_refl 0) ?_
    refine Cl_mono P ?_
    rintro _ μ5 ⟨r6, rfl, P⟩
    show Z SS none mX8_moveShape (d + 1) 0 0 (qI Q) 19 [some (.ref 54), some (vi x1), some (vi x2), some (vi x3), none] [vi r6] μ5 0 0
    have h7 := P.1
    have P := P.2
    refine Z_if_eq (tgt := 101) (pc' := 22) dX8_moveShape_19 (by decide) rfl h7 (fun c8 => ?_) (fun c8 => ?_)
    · have P := P.1 c8
      refine Z_bipush (pc' := 103) dX8_moveShape_101 rfl rfl ?_
      exact Z_ireturn dX8_moveShape_103 rfl (Nat.le_refl 0) (Nat.le_refl 0) P
    · have P := P.2 c8
      refine Z_iload_n (pc' := 23) dX8_moveShape_22 rfl rfl ?_
      refine Z_bipush (pc' := 25) dX8_moveShape_23 rfl rfl ?_
      refine Z_bipush (pc' := 27) dX8_moveShape_25 rfl rfl ?_
      refine Z_callS0 (M' := mX8_in) (pc' := 30) (st := []) [vi x3, vi (-35), vi 35] dX8_moveShape_27 rfl sX8_in lX8_53 rfl (Nat.le_of_ble_eq_true rfl) (Nat.le_refl 0) (Nat.le_refl 0) ?_
      refine Cl_mono P ?_
      rintro _ μ9 ⟨r10, rfl, P⟩
      show Z SS none mX8_moveShape (d + 1) 0 0 (qI Q) 30 [some (.ref 54), some (vi x1), some (vi x2), some (vi x3), none] [vi r10] μ9 0 0
      have h11 := P.1
      have P := P.2
      refine Z_if_eq (tgt := 101) (pc' := 33) dX8_moveShape_30 (by decide) rfl h11 (fun c12 => ?_) (fun c12 => ?_)
      · have P := P.1 c12
        refine Z_bipush (pc' := 103) dX8_moveShape_101 rfl rfl ?_
        exact Z_ireturn dX8_moveShape_103 rfl (Nat.le_refl 0) (Nat.le_refl 0) P
      · have P := P.2 c12
        refine Z_aload_n (pc' := 34) dX8_moveShape_33 rfl rfl ?_
        refine Z_iload_n (pc' := 35) dX8_moveShape_34 rfl rfl ?_
        refine Z_iconst (pc' := 36) dX8_moveShape_35 rfl ?_
        refine Z_callV0 (M' := mX8_shapeOf) (pc' := 39) (st := []) [vi x1, vi 1] dX8_moveShape_36 rfl vX8_shapeOf lX8_49 (Or.inl dd_54) rfl (Nat.le_of_ble_eq_true rfl) (Nat.le_refl 0) (Nat.le_refl 0) ?_
        refine Cl_mono P ?_
        rintro _ μ13 ⟨r14, rfl, P⟩
        show Z SS none mX8_moveShape (d + 1) 0 0 (qI Q) 39 [some (.ref 54), some (vi x1), some (vi x2), some (vi x3), none] [vi r14] μ13 0 0
        refine Z_iload_n (pc' := 40) dX8_moveShape_39 rfl rfl ?_
        refine Z_iadd (pc' := 41) dX8_moveShape_40 rfl ?_
        refine Z_iconst (pc' := 42) dX8_moveShape_41 rfl ?_
        refine Z_bipush (pc' := 44) dX8_moveShape_42 rfl rfl ?_
        refine Z_callS0 (M' := mX8_in) (pc' := 47) (st := []) [vi (r14 + x2), vi 0, vi 47] dX8_moveShape_44 rfl sX8_in lX8_53 rfl (Nat.le_of_ble_eq_true rfl) (Nat.le_refl 0) (Nat.le_refl 0) ?_
        refine Cl_mono P ?_
        rintro _ μ15 ⟨r16, rfl, P⟩
        show Z SS none mX8_moveShape (d + 1) 0 0 (qI Q) 47 [some (.ref 54), some (vi x1), some (vi x2), some (vi x3), none] [vi r16] μ15 0 0
        have h17 := P.1
        have P := P.2
        refine Z_if_eq (tgt := 101) (pc' := 50) dX8_moveShape_47 (by decide) rfl h17 (fun c18 => ?_) (fun c18 => ?_)
        · have P := P.1 c18
          refine Z_bipush (pc' := 103) dX8_moveShape_101 rfl rfl ?_
          exact Z_ireturn dX8_moveShape_103 rfl (Nat.le_refl 0) (Nat.le_refl 0) P
        · have P := P.2 c18
          refine Z_aload_n (pc' := 51) dX8_moveShape_50 rfl rfl ?_
          refine Z_iload_n (pc' := 52) dX8_moveShape_51 rfl rfl ?_
          refine Z_iconst (pc' := 53) dX8_moveShape_52 rfl ?_
          refine Z_callV0 (M' := mX8_shapeOf) (pc' := 56) (st := []) [vi x1, vi 3] dX8_moveShape_53 rfl vX8_shapeOf lX8_49 (Or.inl dd_54) rfl (Nat.le_of_ble_eq_true rfl) (Nat.le_refl 0) (Nat.le_refl 0) ?_
          refine Cl_mono P ?_
          rintro _ μ19 ⟨r20, rfl, P⟩
          show Z SS none mX8_moveShape (d + 1) 0 0 (qI Q) 56 [some (.ref 54), some (vi x1), some (vi x2), some (vi x3), none] [vi r20] μ19 0 0
          refine Z_iload_n (pc' := 57) dX8_moveShape_56 rfl rfl ?_
          refine Z_iadd (pc' := 58) dX8_moveShape_57 rfl ?_
          refine Z_iconst (pc' := 59) dX8_moveShape_58 rfl ?_
          refine Z_bipush (pc' := 61) dX8_moveShape_59 rfl rfl ?_
          refine Z_callS0 (M' := mX8_in) (pc' := 64) (st := []) [vi (r20 + x2), vi 0, vi 47] dX8_moveShape_61 rfl sX8_in lX8_53 rfl (Nat.le_of_ble_eq_true rfl) (Nat.le_refl 0) (Nat.le_refl 0) ?_
          refine Cl_mono P ?_
          rintro _ μ21 ⟨r22, rfl, P⟩
          show Z SS none mX8_moveShape (d + 1) 0 0 (qI Q) 64 [some (.ref 54), some (vi x1), some (vi x2), some (vi x3), none] [vi r22] μ21 0 0
          have h23 := P.1
          have P := P.2
          refine Z_if_eq (tgt := 101) (pc' := 67) dX8_moveShape_64 (by decide) rfl h23 (fun c24 => ?_) (fun c24 => ?_)
          · have P := P.1 c24
            refine Z_bipush (pc' := 103) dX8_moveShape_101 rfl rfl ?_
            exact Z_ireturn dX8_moveShape_103 rfl (Nat.le_refl 0) (Nat.le_refl 0) P
          · have P := P.2 c24
            refine Z_aload_n (pc' := 68) dX8_moveShape_67 rfl rfl ?_
            refine Z_iload_n (pc' := 69) dX8_moveShape_68 rfl rfl ?_
            refine Z_iconst (pc' := 70) dX8_moveShape_69 rfl ?_
            refine Z_callV0 (M' := mX8_shapeOf) (pc' := 73) (st := []) [vi x1, vi 2] dX8_moveShape_70 rfl vX8_shapeOf lX8_49 (Or.inl dd_54) rfl (Nat.le_of_ble_eq_true rfl) (Nat.le_refl 0) (Nat.le_refl 0) ?_
            refine Cl_mono P ?_
            rintro _ μ25 ⟨r26, rfl, P⟩
            show Z SS none mX8_moveShape (d + 1) 0 0 (qI Q) 73 [some (.ref 54), some (vi x1), some (vi x2), some (vi x3), none] [vi r26] μ25 0 0
            refine Z_iload_n (pc' := 74) dX8_moveShape_73 rfl rfl ?_
            refine Z_iadd (pc' := 75) dX8_moveShape_74 rfl ?_
            refine Z_iconst (pc' := 76) dX8_moveShape_75 rfl ?_
            refine Z_bipush (pc' := 78) dX8_moveShape_76 rfl rfl ?_
            refine Z_callS0 (M' := mX8_in) (pc' := 81) (st := []) [vi (r26 + x3), vi 0, vi 35] dX8_moveShape_78 rfl sX8_in lX8_53 rfl (Nat.le_of_ble_eq_true rfl) (Nat.le_refl 0) (Nat.le_refl 0) ?_
            refine Cl_mono P ?_
            rintro _ μ27 ⟨r28, rfl, P⟩
            show Z SS none mX8_moveShape (d + 1) 0 0 (qI Q) 81 [some (.ref 54), some (vi x1), some (vi x2), some (vi x3), none] [vi r28] μ27 0 0
            have h29 := P.1
            have P := P.2
            refine Z_if_eq (tgt := 101) (pc' := 84) dX8_moveShape_81 (by decide) rfl h29 (fun c30 => ?_) (fun c30 => ?_)
            · have P := P.1 c30
              refine Z_bipush (pc' := 103) dX8_moveShape_101 rfl rfl ?_
              exact Z_ireturn dX8_moveShape_103 rfl (Nat.le_refl 0) (Nat.le_refl 0) P
            · have P := P.2 c30
              refine Z_aload_n (pc' := 85) dX8_moveShape_84 rfl rfl ?_
              refine Z_iload_n (pc' := 86) dX8_moveShape_85 rfl rfl ?_
              refine Z_iconst (pc' := 87) dX8_moveShape_86 rfl ?_
              refine Z_callV0 (M' := mX8_shapeOf) (pc' := 90) (st := []) [vi x1, vi 4] dX8_moveShape_87 rfl vX8_shapeOf lX8_49 (Or.inl dd_54) rfl (Nat.le_of_ble_eq_true rfl) (Nat.le_refl 0) (Nat.le_refl 0) ?_
              refine Cl_mono P ?_
              rintro _ μ31 ⟨r32, rfl, P⟩
              show Z SS none mX8_moveShape (d + 1) 0 0 (qI Q) 90 [some (.ref 54), some (vi x1), some (vi x2), some (vi x3), none] [vi r32] μ31 0 0
              refine Z_iload_n (pc' := 91) dX8_moveShape_90 rfl rfl ?_
              refine Z_iadd (pc' := 92) dX8_moveShape_91 rfl ?_
              refine Z_iconst (pc' := 93) dX8_moveShape_92 rfl ?_
              refine Z_bipush (pc' := 95) dX8_moveShape_93 rfl rfl ?_
              refine Z_callS0 (M' := mX8_in) (pc' := 98) (st := []) [vi (r32 + x3), vi 0, vi 35] dX8_moveShape_95 rfl sX8_in lX8_53 rfl (Nat.le_of_ble_eq_true rfl) (Nat.le_refl 0) (Nat.le_refl 0) ?_
              refine Cl_mono P ?_
              rintro _ μ33 ⟨r34, rfl, P⟩
              show Z SS none mX8_moveShape (d + 1) 0 0 (qI Q) 98 [some (.ref 54), some (vi x1), some (vi x2), some (vi x3), none] [vi r34] μ33 0 0
              have h35 := P.1
              have P := P.2
              refine Z_if_ne (tgt := 104) (pc' := 101) dX8_moveShape_98 (by decide) rfl h35 (fun c36 => ?_) (fun c36 => ?_)
              · have P := P.2 c36
                refine Z_aload_n (pc' := 105) dX8_moveShape_104 rfl rfl ?_
                refine Z_callV0 (M' := mX8_records) (pc' := 108) (st := []) [] dX8_moveShape_105 rfl vX8_records lX8_68 (Or.inl dd_54) rfl (Nat.le_of_ble_eq_true rfl) (Nat.le_refl 0) (Nat.le_refl 0) ?_
                refine Cl_mono P ?_
                rintro _ μ37 ⟨rfl, P⟩
                show Z SS none mX8_moveShape (d + 1) 0 0 (qI Q) 108 [some (.ref 54), some (vi x1), some (vi x2), some (vi x3), none] [] μ37 0 0
                refine Z_iconst (pc' := 109) dX8_moveShape_108 rfl ?_
                refine Z_iconst (pc' := 110) dX8_moveShape_109 rfl ?_
                refine Z_iload_n (pc' := 111) dX8_moveShape_110 rfl rfl ?_
                refine Z_imul (pc' := 112) dX8_moveShape_111 rfl ?_
                refine Z_iadd (pc' := 113) dX8_moveShape_112 rfl ?_
                refine Z_istore (pc' := 115) (lo' := [some (.ref 54), some (vi x1), some (vi x2), some (vi x3), some (vi (1 + (5 * x1)))]) dX8_moveShape_113 rfl (by decide) rfl ?_
                refine Z_aload_n (pc' := 116) dX8_moveShape_115 rfl rfl ?_
                refine Z_getR (q := 55) (pc' := 119) dX8_moveShape_116 rfl fX8_7 rfl (Or.inl dd_54) (Or.inl rr_54_0) ?_
                refine Z_iload (pc' := 121) dX8_moveShape_119 rfl rfl ?_
                refine Z_iconst (pc' := 122) dX8_moveShape_121 rfl ?_
                refine Z_iadd (pc' := 123) dX8_moveShape_122 rfl ?_
                refine Z_dup2 (pc' := 124) dX8_moveShape_123 rfl rfl rfl ?_
                have h38 := P.1
                have P := P.2
                have h39 := P.1
                have P := P.2
                refine Z_iaload (pc' := 125) dX8_moveShape_124 rfl (Or.inl dd_55) (Nat.le_of_ble_eq_true rfl) h38 h39 ?_
                refine Z_iload_n (pc' := 126) dX8_moveShape_125 rfl rfl ?_
                refine Z_iadd (pc' := 127) dX8_moveShape_126 rfl ?_
                refine Z_iastore (pc' := 128) dX8_moveShape_127 rfl (Or.inl dd_55) (Nat.le_of_ble_eq_true rfl) h38 h39 ?_
                refine Z_aload_n (pc' := 129) dX8_moveShape_128 rfl rfl ?_
                refine Z_getR (q := 55) (pc' := 132) dX8_moveShape_129 rfl fX8_7 rfl (Or.inl dd_54) (Or.inl rr_54_0) ?_
                refine Z_iload (pc' := 134) dX8_moveShape_132 rfl rfl ?_
                refine Z_iconst (pc' := 135) dX8_moveShape_134 rfl ?_
                refine Z_iadd (pc' := 136) dX8_moveShape_135 rfl ?_
                refine Z_dup2 (pc' := 137) dX8_moveShape_136 rfl rfl rfl ?_
                have h40 := P.1
                have P := P.2
                have h41 := P.1
                have P := P.2
                refine Z_iaload (pc' := 138) dX8_moveShape_137 rfl (Or.inl dd_55) (Nat.le_of_ble_eq_true rfl) h40 h41 ?_
                refine Z_iload_n (pc' := 139) dX8_moveShape_138 rfl rfl ?_
                refine Z_iadd (pc' := 140) dX8_moveShape_139 rfl ?_
                refine Z_iastore (pc' := 141) dX8_moveShape_140 rfl (Or.inl dd_55) (Nat.le_of_ble_eq_true rfl) h40 h41 ?_
                refine Z_aload_n (pc' := 142) dX8_moveShape_141 rfl rfl ?_
                refine Z_getR (q := 55) (pc' := 145) dX8_moveShape_142 rfl fX8_7 rfl (Or.inl dd_54) (Or.inl rr_54_0) ?_
                refine Z_iload (pc' := 147) dX8_moveShape_145 rfl rfl ?_
                refine Z_iconst (pc' := 148) dX8_moveShape_147 rfl ?_
                refine Z_iadd (pc' := 149) dX8_moveShape_148 rfl ?_
                refine Z_dup2 (pc' := 150) dX8_moveShape_149 rfl rfl rfl ?_
                have h42 := P.1
                have P := P.2
                have h43 := P.1
                have P := P.2
                refine Z_iaload (pc' := 151) dX8_moveShape_150 rfl (Or.inl dd_55) (Nat.le_of_ble_eq_true rfl) h42 h43 ?_
                refine Z_iload_n (pc' := 152) dX8_moveShape_151 rfl rfl ?_
                refine Z_iadd (pc' := 153) dX8_moveShape_152 rfl ?_
                refine Z_iastore (pc' := 154) dX8_moveShape_153 rfl (Or.inl dd_55) (Nat.le_of_ble_eq_true rfl) h42 h43 ?_
                refine Z_aload_n (pc' := 155) dX8_moveShape_154 rfl rfl ?_
                refine Z_getR (q := 55) (pc' := 158) dX8_moveShape_155 rfl fX8_7 rfl (Or.inl dd_54) (Or.inl rr_54_0) ?_
                refine Z_iload (pc' := 160) dX8_moveShape_158 rfl rfl ?_
                refine Z_iconst (pc' := 161) dX8_moveShape_160 rfl ?_
                refine Z_iadd (pc' := 162) dX8_moveShape_161 rfl ?_
                refine Z_dup2 (pc' := 163) dX8_moveShape_162 rfl rfl rfl ?_
                have h44 := P.1
                have P := P.2
                have h45 := P.1
                have P := P.2
                refine Z_iaload (pc' := 164) dX8_moveShape_163 rfl (Or.inl dd_55) (Nat.le_of_ble_eq_true rfl) h44 h45 ?_
                refine Z_iload_n (pc' := 165) dX8_moveShape_164 rfl rfl ?_
                refine Z_iadd (pc' := 166) dX8_moveShape_165 rfl ?_
                refine Z_iastore (pc' := 167) dX8_moveShape_166 rfl (Or.inl dd_55) (Nat.le_of_ble_eq_true rfl) h44 h45 ?_
                refine Z_aload_n (pc' := 168) dX8_moveShape_167 rfl rfl ?_
                refine Z_callV0 (M' := mX8_freeCells) (pc' := 171) (st := []) [] dX8_moveShape_168 rfl vX8_freeCells lX8_75 (Or.inl dd_54) rfl (Nat.le_of_ble_eq_true rfl) (Nat.le_refl 0) (Nat.le_refl 0) ?_
                refine Cl_mono P ?_
                rintro _ μ46 ⟨r47, rfl, P⟩
                show Z SS none mX8_moveShape (d + 1) 0 0 (qI Q) 171 [some (.ref 54), some (vi x1), some (vi x2), some (vi x3), some (vi (1 + (5 * x1)))] [vi r47] μ46 0 0
                exact Z_ireturn dX8_moveShape_171 rfl (Nat.le_refl 0) (Nat.le_refl 0) P
              · have P := P.1 c36
                refine Z_bipush (pc' := 103) dX8_moveShape_101 rfl rfl ?_
                exact Z_ireturn dX8_moveShape_103 rfl (Nat.le_refl 0) (Nat.le_refl 0) P
  · have P := P.1 c4
    refine Z_bipush (pc' := 10) dX8_moveShape_8 rfl rfl ?_
    exact Z_ireturn dX8_moveShape_10 rfl (Nat.le_refl 0) (Nat.le_refl 0) P
abbrev zX8_removeShape_31 (d : Nat) (Q : Int → zMem → Prop) (x2 : Int) (μ : zMem) : Prop := Z SS none mX8_removeShape (d + 1) 0 0 (qI Q) 31 [some (.ref 54), none, some (vi x2)] [] μ 0 0
theorem bX8_removeShape {d : Nat} {Q : Int → zMem → Prop} {μ : zMem} {x1 : Int} (P : kX8_isShape d x1 μ (fun (r2 : Int) (μ1 : zMem) => (zIn r2) ∧ ((r2 = 0 → (Q (-2) μ1)) ∧ (¬ (r2 = 0) → (kX8_records d μ1 (fun μ5 : zMem => zX8_removeShape_31 d Q (1 + (5 * x1)) (sI μ5 55 0 ((gI μ5 55 0) - 1)))))))) : kX8_removeShape (d + 1) x1 μ Q := by
  refine Cl_of rfl (Nat.le_of_ble_eq_true rfl) rfl ?_
  show Z SS none mX8_removeShape (d + 1) 0 0 (qI Q) 0 [some (.ref 54), some (vi x1), none] [] μ 0 0
  refine Z_aload_n (pc' := 1) dX8_removeShape_0 rfl rfl ?_
  refine Z_iload_n (pc' := 2) dX8_removeShape_1 rfl rfl ?_
  refine Z_callV0 (M' := mX8_isShape) (pc' := 5) (st := []) [vi x1] dX8_removeShape_2 rfl vX8_isShape lX8_71 (Or.inl dd_54) rfl (Nat.le_of_ble_eq_true rfl) (Nat.le_refl 0) (Nat.le_refl 0) ?_
  refine Cl_mono P ?_
  rintro _ μ1 ⟨r2, rfl, P⟩
  show Z SS none mX8_removeShape (d + 1) 0 0 (qI Q) 5 [some (.ref 54), some (vi x1), none] [vi r2] μ1 0 0
  have h3 := P.1
  have P := P.2
  refine Z_if_ne (tgt := 11) (pc' := 8) dX8_removeShape_5 (by decide) rfl h3 (fun c4 => ?_) (fun c4 => ?_)
  · have P := P.2 c4
    refine Z_aload_n (pc' := 12) dX8_removeShape_11 rfl rfl ?_
    refine Z_callV0 (M' := mX8_records) (pc' := 15) (st := []) [] dX8_removeShape_12 rfl vX8_records lX8_68 (Or.inl dd_54) rfl (Nat.le_of_ble_eq_true rfl) (Nat.le_refl 0) (Nat.le_refl 0) ?_
    refine Cl_mono P ?_
    rintro _ μ5 ⟨rfl, P⟩
    show Z SS none mX8_removeShape (d + 1) 0 0 (qI Q) 15 [some (.ref 54), some (vi x1), none] [] μ5 0 0
    refine Z_aload_n (pc' := 16) dX8_removeShape_15 rfl rfl ?_
    refine Z_getR (q := 55) (pc' := 19) dX8_removeShape_16 rfl fX8_7 rfl (Or.inl dd_54) (Or.inl rr_54_0) ?_
    refine Z_iconst (pc' := 20) dX8_removeShape_19 rfl ?_
    refine Z_dup2 (pc' := 21) dX8_removeShape_20 rfl rfl rfl ?_
    refine Z_iaload (pc' := 22) dX8_removeShape_21 rfl (Or.inl dd_55) (Nat.le_of_ble_eq_true rfl) (by decide) (by decide) ?_
    refine Z_iconst (pc' := 23) dX8_removeShape_22 rfl ?_
    refine Z_isub (pc' := 24) dX8_removeShape_23 rfl ?_
    refine Z_iastore (pc' := 25) dX8_removeShape_24 rfl (Or.inl dd_55) (Nat.le_of_ble_eq_true rfl) (by decide) (by decide) ?_
    refine Z_iconst (pc' := 26) dX8_removeShape_25 rfl ?_
    refine Z_iconst (pc' := 27) dX8_removeShape_26 rfl ?_
    refine Z_iload_n (pc' := 28) dX8_removeShape_27 rfl rfl ?_
    refine Z_imul (pc' := 29) dX8_removeShape_28 rfl ?_
    refine Z_iadd (pc' := 30) dX8_removeShape_29 rfl ?_
    refine Z_istore_n (pc' := 31) (lo' := [some (.ref 54), some (vi x1), some (vi (1 + (5 * x1)))]) dX8_removeShape_30 rfl (by decide) rfl ?_
    refine Z_wk [true, false, true] rfl ?_
    exact P
  · have P := P.1 c4
    refine Z_bipush (pc' := 10) dX8_removeShape_8 rfl rfl ?_
    exact Z_ireturn dX8_removeShape_10 rfl (Nat.le_refl 0) (Nat.le_refl 0) P
theorem bX8_removeShape_31 {d : Nat} {Q : Int → zMem → Prop} {μ : zMem} {x2 : Int} (P : (zIn x2) ∧ ((zIn (1 + (5 * (gI μ 55 0)))) ∧ (((1 + (5 * (gI μ 55 0))) ≤ x2 → (Q (gI μ 55 0) μ)) ∧ (¬ ((1 + (5 * (gI μ 55 0))) ≤ x2) → ((0 ≤ (x2 + 5)) ∧ (((x2 + 5) < 1285) ∧ ((0 ≤ x2) ∧ ((x2 < 1285) ∧ (zX8_removeShape_31 d Q (x2 + 1) (sI μ 55 x2 (gI μ 55 (x2 + 5)))))))))))) : zX8_removeShape_31 d Q x2 μ := by
  refine Z_iload_n (pc' := 32) dX8_removeShape_31 rfl rfl ?_
  refine Z_iconst (pc' := 33) dX8_removeShape_32 rfl ?_
  refine Z_iconst (pc' := 34) dX8_removeShape_33 rfl ?_
  refine Z_aload_n (pc' := 35) dX8_removeShape_34 rfl rfl ?_
  refine Z_getR (q := 55) (pc' := 38) dX8_removeShape_35 rfl fX8_7 rfl (Or.inl dd_54) (Or.inl rr_54_0) ?_
  refine Z_iconst (pc' := 39) dX8_removeShape_38 rfl ?_
  refine Z_iaload (pc' := 40) dX8_removeShape_39 rfl (Or.inl dd_55) (Nat.le_of_ble_eq_true rfl) (by decide) (by decide) ?_
  refine Z_imul (pc' := 41) dX8_removeShape_40 rfl ?_
  refine Z_iadd (pc' := 42) dX8_removeShape_41 rfl ?_
  have h1 := P.1
  have P := P.2
  have h2 := P.1
  have P := P.2
  refine Z_icmp_ge (tgt := 65) (pc' := 45) dX8_removeShape_42 (by decide) rfl h1 h2 (fun c3 => ?_) (fun c3 => ?_)
  · have P := P.1 c3
    refine Z_aload_n (pc' := 66) dX8_removeShape_65 rfl rfl ?_
    refine Z_getR (q := 55) (pc' := 69) dX8_removeShape_66 rfl fX8_7 rfl (Or.inl dd_54) (Or.inl rr_54_0) ?_
    refine Z_iconst (pc' := 70) dX8_removeShape_69 rfl ?_
    refine Z_iaload (pc' := 71) dX8_removeShape_70 rfl (Or.inl dd_55) (Nat.le_of_ble_eq_true rfl) (by decide) (by decide) ?_
    exact Z_ireturn dX8_removeShape_71 rfl (Nat.le_refl 0) (Nat.le_refl 0) P
  · have P := P.2 c3
    refine Z_aload_n (pc' := 46) dX8_removeShape_45 rfl rfl ?_
    refine Z_getR (q := 55) (pc' := 49) dX8_removeShape_46 rfl fX8_7 rfl (Or.inl dd_54) (Or.inl rr_54_0) ?_
    refine Z_iload_n (pc' := 50) dX8_removeShape_49 rfl rfl ?_
    refine Z_aload_n (pc' := 51) dX8_removeShape_50 rfl rfl ?_
    refine Z_getR (q := 55) (pc' := 54) dX8_removeShape_51 rfl fX8_7 rfl (Or.inl dd_54) (Or.inl rr_54_0) ?_
    refine Z_iload_n (pc' := 55) dX8_removeShape_54 rfl rfl ?_
    refine Z_iconst (pc' := 56) dX8_removeShape_55 rfl ?_
    refine Z_iadd (pc' := 57) dX8_removeShape_56 rfl ?_
    have h4 := P.1
    have P := P.2
    have h5 := P.1
    have P := P.2
    refine Z_iaload (pc' := 58) dX8_removeShape_57 rfl (Or.inl dd_55) (Nat.le_of_ble_eq_true rfl) h4 h5 ?_
    have h6 := P.1
    have P := P.2
    have h7 := P.1
    have P := P.2
    refine Z_iastore (pc' := 59) dX8_removeShape_58 rfl (Or.inl dd_55) (Nat.le_of_ble_eq_true rfl) h6 h7 ?_
    refine Z_iinc (pc' := 62) (lo' := [some (.ref 54), none, some (vi (x2 + 1))]) dX8_removeShape_59 rfl (by decide) rfl rfl ?_
    refine Z_goto (tgt := 31) dX8_removeShape_62 (by decide) ?_
    exact P
theorem bX8_isFree {d : Nat} {Q : Int → zMem → Prop} {μ : zMem} {x1 : Int} {x2 : Int} (P : kX8_in d x1 0 47 μ (fun (r2 : Int) (μ1 : zMem) => (zIn r2) ∧ ((r2 = 0 → (Q (-3) μ1)) ∧ (¬ (r2 = 0) → (kX8_in d x2 0 35 μ1 (fun (r6 : Int) (μ5 : zMem) => (zIn r6) ∧ ((r6 = 0 → (Q (-3) μ5)) ∧ (¬ (r6 = 0) → (kX8_free d x1 x2 μ5 (fun (r10 : Int) (μ9 : zMem) => ((zIn r10)) ∧ (Q (if r10 = 0 then 0 else 1) μ9))))))))))) : kX8_isFree (d + 1) x1 x2 μ Q := by
  refine Cl_of rfl (Nat.le_of_ble_eq_true rfl) rfl ?_
  show Z SS none mX8_isFree (d + 1) 0 0 (qI Q) 0 [some (.ref 54), some (vi x1), some (vi x2)] [] μ 0 0
  refine Z_iload_n (pc' := 1) dX8_isFree_0 rfl rfl ?_
  refine Z_iconst (pc' := 2) dX8_isFree_1 rfl ?_
  refine Z_bipush (pc' := 4) dX8_isFree_2 rfl rfl ?_
  refine Z_callS0 (M' := mX8_in) (pc' := 7) (st := []) [vi x1, vi 0, vi 47] dX8_isFree_4 rfl sX8_in lX8_53 rfl (Nat.le_of_ble_eq_true rfl) (Nat.le_refl 0) (Nat.le_refl 0) ?_
  refine Cl_mono P ?_
  rintro _ μ1 ⟨r2, rfl, P⟩
  show Z SS none mX8_isFree (d + 1) 0 0 (qI Q) 7 [some (.ref 54), some (vi x1), some (vi x2)] [vi r2] μ1 0 0
  have h3 := P.1
  have P := P.2
  refine Z_if_eq (tgt := 20) (pc' := 10) dX8_isFree_7 (by decide) rfl h3 (fun c4 => ?_) (fun c4 => ?_)
  · have P := P.1 c4
    refine Z_bipush (pc' := 22) dX8_isFree_20 rfl rfl ?_
    exact Z_ireturn dX8_isFree_22 rfl (Nat.le_refl 0) (Nat.le_refl 0) P
  · have P := P.2 c4
    refine Z_iload_n (pc' := 11) dX8_isFree_10 rfl rfl ?_
    refine Z_iconst (pc' := 12) dX8_isFree_11 rfl ?_
    refine Z_bipush (pc' := 14) dX8_isFree_12 rfl rfl ?_
    refine Z_callS0 (M' := mX8_in) (pc' := 17) (st := []) [vi x2, vi 0, vi 35] dX8_isFree_14 rfl sX8_in lX8_53 rfl (Nat.le_of_ble_eq_true rfl) (Nat.le_refl 0) (Nat.le_refl 0) ?_
    refine Cl_mono P ?_
    rintro _ μ5 ⟨r6, rfl, P⟩
    show Z SS none mX8_isFree (d + 1) 0 0 (qI Q) 17 [some (.ref 54), some (vi x1), some (vi x2)] [vi r6] μ5 0 0
    have h7 := P.1
    have P := P.2
    refine Z_if_ne (tgt := 23) (pc' := 20) dX8_isFree_17 (by decide) rfl h7 (fun c8 => ?_) (fun c8 => ?_)
    · have P := P.2 c8
      refine Z_aload_n (pc' := 24) dX8_isFree_23 rfl rfl ?_
      refine Z_iload_n (pc' := 25) dX8_isFree_24 rfl rfl ?_
      refine Z_iload_n (pc' := 26) dX8_isFree_25 rfl rfl ?_
      refine Z_callV0 (M' := mX8_free) (pc' := 29) (st := []) [vi x1, vi x2] dX8_isFree_26 rfl vX8_free lX8_64 (Or.inl dd_54) rfl (Nat.le_of_ble_eq_true rfl) (Nat.le_refl 0) (Nat.le_refl 0) ?_
      refine Cl_mono P ?_
      rintro _ μ9 ⟨r10, rfl, P⟩
      show Z SS none mX8_isFree (d + 1) 0 0 (qI Q) 29 [some (.ref 54), some (vi x1), some (vi x2)] [vi r10] μ9 0 0
      have K : ∀ t13 : Int, t13 = (if r10 = 0 then 0 else 1) → Z SS none mX8_isFree (d + 1) 0 0 (qI Q) 37 [some (.ref 54), some (vi x1), some (vi x2)] [vi t13] μ9 0 0 := by
        rintro _ rfl
        have P := P.2
        exact Z_ireturn dX8_isFree_37 rfl (Nat.le_refl 0) (Nat.le_refl 0) P
      have G := P.1
      have h11 := G
      refine Z_if_eq (tgt := 36) (pc' := 32) dX8_isFree_29 (by decide) rfl h11 (fun c12 => ?_) (fun c12 => ?_)
      · refine Z_iconst (pc' := 37) dX8_isFree_36 rfl ?_
        exact K _ (by rw [if_pos c12])
      · refine Z_iconst (pc' := 33) dX8_isFree_32 rfl ?_
        refine Z_goto (tgt := 37) dX8_isFree_33 (by decide) ?_
        exact K _ (by rw [if_neg c12])
    · have P := P.1 c8
      refine Z_bipush (pc' := 22) dX8_isFree_20 rfl rfl ?_
      exact Z_ireturn dX8_isFree_22 rfl (Nat.le_refl 0) (Nat.le_refl 0) P
abbrev zX8_notesSpan_20 (d : Nat) (Q : zMem → Prop) (x1 : Int) (y2 : Int64) (x4 : Int) (x5 : Int) (μ : zMem) : Prop := Z SS none mX8_notesSpan d 0 0 (qV Q) 20 [some (.ref 54), some (vi x1), some (.long (y2)), none, some (vi x4), some (vi x5)] [] μ 0 0
theorem bX8_notesSpan {d : Nat} {Q : zMem → Prop} {μ : zMem} {x1 : Int} {y2 : Int64} (P : (0 ≤ x1) ∧ ((x1 < 1296) ∧ (zX8_notesSpan_20 d Q x1 y2 0 0 (sI (sI μ 56 x1 0) 57 x1 (-1))))) : kX8_notesSpan d x1 y2 μ Q := by
  refine Cl_of rfl (Nat.le_of_ble_eq_true rfl) rfl ?_
  show Z SS none mX8_notesSpan d 0 0 (qV Q) 0 [some (.ref 54), some (vi x1), some (.long (y2)), none, none, none] [] μ 0 0
  refine Z_aload_n (pc' := 1) dX8_notesSpan_0 rfl rfl ?_
  refine Z_getR (q := 56) (pc' := 4) dX8_notesSpan_1 rfl fX8_13 rfl (Or.inl dd_54) (Or.inl rr_54_2) ?_
  refine Z_iload_n (pc' := 5) dX8_notesSpan_4 rfl rfl ?_
  refine Z_iconst (pc' := 6) dX8_notesSpan_5 rfl ?_
  have h1 := P.1
  have P := P.2
  have h2 := P.1
  have P := P.2
  refine Z_iastore (pc' := 7) dX8_notesSpan_6 rfl (Or.inl dd_56) (Nat.le_of_ble_eq_true rfl) h1 h2 ?_
  refine Z_aload_n (pc' := 8) dX8_notesSpan_7 rfl rfl ?_
  refine Z_getR (q := 57) (pc' := 11) dX8_notesSpan_8 rfl fX8_16 rfl (Or.inl dd_54) (Or.inl rr_54_3) ?_
  refine Z_iload_n (pc' := 12) dX8_notesSpan_11 rfl rfl ?_
  refine Z_iconst (pc' := 13) dX8_notesSpan_12 rfl ?_
  refine Z_iastore (pc' := 14) dX8_notesSpan_13 rfl (Or.inl dd_57) (Nat.le_of_ble_eq_true rfl) h1 h2 ?_
  refine Z_iconst (pc' := 15) dX8_notesSpan_14 rfl ?_
  refine Z_istore (pc' := 17) (lo' := [some (.ref 54), some (vi x1), some (.long (y2)), none, some (vi 0), none]) dX8_notesSpan_15 rfl (by decide) rfl ?_
  refine Z_iconst (pc' := 18) dX8_notesSpan_17 rfl ?_
  refine Z_istore (pc' := 20) (lo' := [some (.ref 54), some (vi x1), some (.long (y2)), none, some (vi 0), some (vi 0)]) dX8_notesSpan_18 rfl (by decide) rfl ?_
  exact P
theorem bX8_notesSpan_20 {d : Nat} {Q : zMem → Prop} {μ : zMem} {x1 : Int} {y2 : Int64} {x4 : Int} {x5 : Int} (P : (zIn x5) ∧ ((48 ≤ x5 → (Q μ)) ∧ (¬ (48 ≤ x5) → ((0 ≤ x1) ∧ ((x1 < 1296) ∧ ((zIn (if (zcmp ((y2 >>> ((Int32.ofInt x5).toInt64 &&& 63)) &&& (1 : Int64)) (1 : Int64)) = 0 then (x4 + 1) else 0)) ∧ ((zIn (gI μ 56 x1)) ∧ (((if (zcmp ((y2 >>> ((Int32.ofInt x5).toInt64 &&& 63)) &&& (1 : Int64)) (1 : Int64)) = 0 then (x4 + 1) else 0) ≤ (gI μ 56 x1) → (zX8_notesSpan_20 d Q x1 y2 (if (zcmp ((y2 >>> ((Int32.ofInt x5).toInt64 &&& 63)) &&& (1 : Int64)) (1 : Int64)) = 0 then (x4 + 1) else 0) (x5 + 1) μ)) ∧ (¬ ((if (zcmp ((y2 >>> ((Int32.ofInt x5).toInt64 &&& 63)) &&& (1 : Int64)) (1 : Int64)) = 0 then (x4 + 1) else 0) ≤ (gI μ 56 x1)) → (zX8_notesSpan_20 d Q x1 y2 (if (zcmp ((y2 >>> ((Int32.ofInt x5).toInt64 &&& 63)) &&& (1 : Int64)) (1 : Int64)) = 0 then (x4 + 1) else 0) (x5 + 1) (sI (sI μ 56 x1 (if (zcmp ((y2 >>> ((Int32.ofInt x5).toInt64 &&& 63)) &&& (1 : Int64)) (1 : Int64)) = 0 then (x4 + 1) else 0)) 57 x1 ((x5 - (if (zcmp ((y2 >>> ((Int32.ofInt x5).toInt64 &&& 63)) &&& (1 : Int64)) (1 : Int64)) = 0 then (x4 + 1) else 0)) + 1)))))))))))) : zX8_notesSpan_20 d Q x1 y2 x4 x5 μ := by
  refine Z_iload (pc' := 22) dX8_notesSpan_20 rfl rfl ?_
  refine Z_bipush (pc' := 24) dX8_notesSpan_22 rfl rfl ?_
  have h1 := P.1
  have P := P.2
  refine Z_icmp_ge (tgt := 86) (pc' := 27) dX8_notesSpan_24 (by decide) rfl h1 (z_lit rfl) (fun c2 => ?_) (fun c2 => ?_)
  · have P := P.1 c2
    exact Z_return dX8_notesSpan_86 rfl (Nat.le_refl 0) (Nat.le_refl 0) P
  · have P := P.2 c2
    refine Z_lload_n (pc' := 28) dX8_notesSpan_27 rfl rfl ?_
    refine Z_iload (pc' := 30) dX8_notesSpan_28 rfl rfl ?_
    refine Z_lshr (pc' := 31) dX8_notesSpan_30 rfl ?_
    refine Z_lconst (pc' := 32) (v := 1) dX8_notesSpan_31 rfl rfl ?_
    refine Z_land (pc' := 33) dX8_notesSpan_32 rfl ?_
    refine Z_lconst (pc' := 34) (v := 1) dX8_notesSpan_33 rfl rfl ?_
    refine Z_lcmp (pc' := 35) dX8_notesSpan_34 rfl ?_
    have K : ∀ t4 : Int, t4 = (if (zcmp ((y2 >>> ((Int32.ofInt x5).toInt64 &&& 63)) &&& (1 : Int64)) (1 : Int64)) = 0 then (x4 + 1) else 0) → Z SS none mX8_notesSpan d 0 0 (qV Q) 46 [some (.ref 54), some (vi x1), some (.long (y2)), none, some (vi x4), some (vi x5)] [vi t4] μ 0 0 := by
      rintro _ rfl
      refine Z_istore (pc' := 48) (lo' := [some (.ref 54), some (vi x1), some (.long (y2)), none, some (vi (if (zcmp ((y2 >>> ((Int32.ofInt x5).toInt64 &&& 63)) &&& (1 : Int64)) (1 : Int64)) = 0 then (x4 + 1) else 0)), some (vi x5)]) dX8_notesSpan_46 rfl (by decide) rfl ?_
      refine Z_iload (pc' := 50) dX8_notesSpan_48 rfl rfl ?_
      refine Z_aload_n (pc' := 51) dX8_notesSpan_50 rfl rfl ?_
      refine Z_getR (q := 56) (pc' := 54) dX8_notesSpan_51 rfl fX8_13 rfl (Or.inl dd_54) (Or.inl rr_54_2) ?_
      refine Z_iload_n (pc' := 55) dX8_notesSpan_54 rfl rfl ?_
      have h5 := P.1
      have P := P.2
      have h6 := P.1
      have P := P.2
      refine Z_iaload (pc' := 56) dX8_notesSpan_55 rfl (Or.inl dd_56) (Nat.le_of_ble_eq_true rfl) h5 h6 ?_
      have h7 := P.1
      have P := P.2
      have h8 := P.1
      have P := P.2
      refine Z_icmp_le (tgt := 80) (pc' := 59) dX8_notesSpan_56 (by decide) rfl h7 h8 (fun c9 => ?_) (fun c9 => ?_)
      · have P := P.1 c9
        refine Z_iinc (pc' := 83) (lo' := [some (.ref 54), some (vi x1), some (.long (y2)), none, some (vi (if (zcmp ((y2 >>> ((Int32.ofInt x5).toInt64 &&& 63)) &&& (1 : Int64)) (1 : Int64)) = 0 then (x4 + 1) else 0)), some (vi (x5 + 1))]) dX8_notesSpan_80 rfl (by decide) rfl rfl ?_
        refine Z_goto (tgt := 20) dX8_notesSpan_83 (by decide) ?_
        exact P
      · have P := P.2 c9
        refine Z_aload_n (pc' := 60) dX8_notesSpan_59 rfl rfl ?_
        refine Z_getR (q := 56) (pc' := 63) dX8_notesSpan_60 rfl fX8_13 rfl (Or.inl dd_54) (Or.inl rr_54_2) ?_
        refine Z_iload_n (pc' := 64) dX8_notesSpan_63 rfl rfl ?_
        refine Z_iload (pc' := 66) dX8_notesSpan_64 rfl rfl ?_
        refine Z_iastore (pc' := 67) dX8_notesSpan_66 rfl (Or.inl dd_56) (Nat.le_of_ble_eq_true rfl) h5 h6 ?_
        refine Z_aload_n (pc' := 68) dX8_notesSpan_67 rfl rfl ?_
        refine Z_getR (q := 57) (pc' := 71) dX8_notesSpan_68 rfl fX8_16 rfl (Or.inl dd_54) (Or.inl rr_54_3) ?_
        refine Z_iload_n (pc' := 72) dX8_notesSpan_71 rfl rfl ?_
        refine Z_iload (pc' := 74) dX8_notesSpan_72 rfl rfl ?_
        refine Z_iload (pc' := 76) dX8_notesSpan_74 rfl rfl ?_
        refine Z_isub (pc' := 77) dX8_notesSpan_76 rfl ?_
        refine Z_iconst (pc' := 78) dX8_notesSpan_77 rfl ?_
        refine Z_iadd (pc' := 79) dX8_notesSpan_78 rfl ?_
        refine Z_iastore (pc' := 80) dX8_notesSpan_79 rfl (Or.inl dd_57) (Nat.le_of_ble_eq_true rfl) h5 h6 ?_
        refine Z_iinc (pc' := 83) (lo' := [some (.ref 54), some (vi x1), some (.long (y2)), none, some (vi (if (zcmp ((y2 >>> ((Int32.ofInt x5).toInt64 &&& 63)) &&& (1 : Int64)) (1 : Int64)) = 0 then (x4 + 1) else 0)), some (vi (x5 + 1))]) dX8_notesSpan_80 rfl (by decide) rfl rfl ?_
        refine Z_goto (tgt := 20) dX8_notesSpan_83 (by decide) ?_
        exact P
    refine Z_if_ne (tgt := 45) (pc' := 38) dX8_notesSpan_35 (by decide) rfl (zcmp_in _ _) (fun c3 => ?_) (fun c3 => ?_)
    · refine Z_iconst (pc' := 46) dX8_notesSpan_45 rfl ?_
      refine Z_wk [true, true, true, false, true, true] rfl ?_
      exact K _ (by rw [if_neg c3])
    · refine Z_iload (pc' := 40) dX8_notesSpan_38 rfl rfl ?_
      refine Z_iconst (pc' := 41) dX8_notesSpan_40 rfl ?_
      refine Z_iadd (pc' := 42) dX8_notesSpan_41 rfl ?_
      refine Z_goto (tgt := 46) dX8_notesSpan_42 (by decide) ?_
      refine Z_wk [true, true, true, false, true, true] rfl ?_
      exact K _ (by rw [if_pos c3])
abbrev zX8_findsSpans_2 (d : Nat) (Q : zMem → Prop) (x1 : Int) (μ : zMem) : Prop := Z SS none mX8_findsSpans (d + 1) 0 0 (qV Q) 2 [some (.ref 54), some (vi x1), none, none, none] [] μ 0 0
abbrev zX8_findsSpans_62 (d : Nat) (Q : zMem → Prop) (x1 : Int) (μ : zMem) : Prop := Z SS none mX8_findsSpans (d + 1) 0 0 (qV Q) 62 [some (.ref 54), some (vi x1), none, none, none] [] μ 0 0
abbrev zX8_findsSpans_17 (d : Nat) (Q : zMem → Prop) (x1 : Int) (x2 : Int) (μ : zMem) : Prop := Z SS none mX8_findsSpans (d + 1) 0 0 (qV Q) 17 [some (.ref 54), some (vi x1), some (vi x2), none, none] [] μ 0 0
abbrev zX8_findsSpans_78 (d : Nat) (Q : zMem → Prop) (x1 : Int) (y2 : Int64) (x4 : Int) (μ : zMem) : Prop := Z SS none mX8_findsSpans (d + 1) 0 0 (qV Q) 78 [some (.ref 54), some (vi x1), some (.long (y2)), none, some (vi x4)] [] μ 0 0
theorem bX8_findsSpans {d : Nat} {Q : zMem → Prop} {μ : zMem}  (P : zX8_findsSpans_2 d Q 0 μ) : kX8_findsSpans (d + 1) μ Q := by
  refine Cl_of rfl (Nat.le_of_ble_eq_true rfl) rfl ?_
  show Z SS none mX8_findsSpans (d + 1) 0 0 (qV Q) 0 [some (.ref 54), none, none, none, none] [] μ 0 0
  refine Z_iconst (pc' := 1) dX8_findsSpans_0 rfl ?_
  refine Z_istore_n (pc' := 2) (lo' := [some (.ref 54), some (vi 0), none, none, none]) dX8_findsSpans_1 rfl (by decide) rfl ?_
  exact P
theorem bX8_findsSpans_2 {d : Nat} {Q : zMem → Prop} {μ : zMem} {x1 : Int} (P : (zIn x1) ∧ ((36 ≤ x1 → (zX8_findsSpans_62 d Q 0 μ)) ∧ (¬ (36 ≤ x1) → ((0 ≤ x1) ∧ ((x1 < 36) ∧ (zX8_findsSpans_17 d Q x1 0 (sL μ 58 x1 (0 : Int64)))))))) : zX8_findsSpans_2 d Q x1 μ := by
  refine Z_iload_n (pc' := 3) dX8_findsSpans_2 rfl rfl ?_
  refine Z_bipush (pc' := 5) dX8_findsSpans_3 rfl rfl ?_
  have h1 := P.1
  have P := P.2
  refine Z_icmp_ge (tgt := 60) (pc' := 8) dX8_findsSpans_5 (by decide) rfl h1 (z_lit rfl) (fun c2 => ?_) (fun c2 => ?_)
  · have P := P.1 c2
    refine Z_iconst (pc' := 61) dX8_findsSpans_60 rfl ?_
    refine Z_istore_n (pc' := 62) (lo' := [some (.ref 54), some (vi 0), none, none, none]) dX8_findsSpans_61 rfl (by decide) rfl ?_
    exact P
  · have P := P.2 c2
    refine Z_aload_n (pc' := 9) dX8_findsSpans_8 rfl rfl ?_
    refine Z_getR (q := 58) (pc' := 12) dX8_findsSpans_9 rfl fX8_19 rfl (Or.inl dd_54) (Or.inl rr_54_4) ?_
    refine Z_iload_n (pc' := 13) dX8_findsSpans_12 rfl rfl ?_
    refine Z_lconst (pc' := 14) (v := 0) dX8_findsSpans_13 rfl rfl ?_
    have h3 := P.1
    have P := P.2
    have h4 := P.1
    have P := P.2
    refine Z_lastore (pc' := 15) dX8_findsSpans_14 rfl (Or.inl dd_58) (Nat.le_of_ble_eq_true rfl) h3 h4 ?_
    refine Z_iconst (pc' := 16) dX8_findsSpans_15 rfl ?_
    refine Z_istore_n (pc' := 17) (lo' := [some (.ref 54), some (vi x1), some (vi 0), none, none]) dX8_findsSpans_16 rfl (by decide) rfl ?_
    exact P
theorem bX8_findsSpans_62 {d : Nat} {Q : zMem → Prop} {μ : zMem} {x1 : Int} (P : (zIn x1) ∧ ((36 ≤ x1 → (Q μ)) ∧ (¬ (36 ≤ x1) → ((0 ≤ x1) ∧ ((x1 < 36) ∧ (zX8_findsSpans_78 d Q x1 (gL μ 58 x1) x1 μ)))))) : zX8_findsSpans_62 d Q x1 μ := by
  refine Z_iload_n (pc' := 63) dX8_findsSpans_62 rfl rfl ?_
  refine Z_bipush (pc' := 65) dX8_findsSpans_63 rfl rfl ?_
  have h1 := P.1
  have P := P.2
  refine Z_icmp_ge (tgt := 121) (pc' := 68) dX8_findsSpans_65 (by decide) rfl h1 (z_lit rfl) (fun c2 => ?_) (fun c2 => ?_)
  · have P := P.1 c2
    exact Z_return dX8_findsSpans_121 rfl (Nat.le_refl 0) (Nat.le_refl 0) P
  · have P := P.2 c2
    refine Z_aload_n (pc' := 69) dX8_findsSpans_68 rfl rfl ?_
    refine Z_getR (q := 58) (pc' := 72) dX8_findsSpans_69 rfl fX8_19 rfl (Or.inl dd_54) (Or.inl rr_54_4) ?_
    refine Z_iload_n (pc' := 73) dX8_findsSpans_72 rfl rfl ?_
    have h3 := P.1
    have P := P.2
    have h4 := P.1
    have P := P.2
    refine Z_laload (pc' := 74) dX8_findsSpans_73 rfl (Or.inl dd_58) (Nat.le_of_ble_eq_true rfl) h3 h4 ?_
    refine Z_lstore_n (pc' := 75) (lo' := [some (.ref 54), some (vi x1), some (.long ((gL μ 58 x1))), none, none]) dX8_findsSpans_74 rfl (by decide) rfl ?_
    refine Z_iload_n (pc' := 76) dX8_findsSpans_75 rfl rfl ?_
    refine Z_istore (pc' := 78) (lo' := [some (.ref 54), some (vi x1), some (.long ((gL μ 58 x1))), none, some (vi x1)]) dX8_findsSpans_76 rfl (by decide) rfl ?_
    exact P
theorem bX8_findsSpans_17 {d : Nat} {Q : zMem → Prop} {μ : zMem} {x1 : Int} {x2 : Int} (P : (zIn x2) ∧ ((48 ≤ x2 → (zX8_findsSpans_2 d Q (x1 + 1) μ)) ∧ (¬ (48 ≤ x2) → ((0 ≤ x1) ∧ ((x1 < 36) ∧ (kX8_free d x2 x1 μ (fun (r6 : Int) (μ5 : zMem) => ((zIn r6)) ∧ (zX8_findsSpans_17 d Q x1 (x2 + 1) (sL μ5 58 x1 ((gL μ 58 x1) ||| (if r6 = 0 then (0 : Int64) else ((1 : Int64) <<< ((Int32.ofInt x2).toInt64 &&& 63))))))))))))) : zX8_findsSpans_17 d Q x1 x2 μ := by
  refine Z_iload_n (pc' := 18) dX8_findsSpans_17 rfl rfl ?_
  refine Z_bipush (pc' := 20) dX8_findsSpans_18 rfl rfl ?_
  have h1 := P.1
  have P := P.2
  refine Z_icmp_ge (tgt := 54) (pc' := 23) dX8_findsSpans_20 (by decide) rfl h1 (z_lit rfl) (fun c2 => ?_) (fun c2 => ?_)
  · have P := P.1 c2
    refine Z_iinc (pc' := 57) (lo' := [some (.ref 54), some (vi (x1 + 1)), some (vi x2), none, none]) dX8_findsSpans_54 rfl (by decide) rfl rfl ?_
    refine Z_goto (tgt := 2) dX8_findsSpans_57 (by decide) ?_
    refine Z_wk [true, true, false, true, true] rfl ?_
    exact P
  · have P := P.2 c2
    refine Z_aload_n (pc' := 24) dX8_findsSpans_23 rfl rfl ?_
    refine Z_getR (q := 58) (pc' := 27) dX8_findsSpans_24 rfl fX8_19 rfl (Or.inl dd_54) (Or.inl rr_54_4) ?_
    refine Z_iload_n (pc' := 28) dX8_findsSpans_27 rfl rfl ?_
    refine Z_dup2 (pc' := 29) dX8_findsSpans_28 rfl rfl rfl ?_
    have h3 := P.1
    have P := P.2
    have h4 := P.1
    have P := P.2
    refine Z_laload (pc' := 30) dX8_findsSpans_29 rfl (Or.inl dd_58) (Nat.le_of_ble_eq_true rfl) h3 h4 ?_
    refine Z_aload_n (pc' := 31) dX8_findsSpans_30 rfl rfl ?_
    refine Z_iload_n (pc' := 32) dX8_findsSpans_31 rfl rfl ?_
    refine Z_iload_n (pc' := 33) dX8_findsSpans_32 rfl rfl ?_
    refine Z_callV0 (M' := mX8_free) (pc' := 36) (st := [.long ((gL μ 58 x1)), vi x1, .ref 58]) [vi x2, vi x1] dX8_findsSpans_33 rfl vX8_free lX8_64 (Or.inl dd_54) rfl (Nat.le_of_ble_eq_true rfl) (Nat.le_refl 0) (Nat.le_refl 0) ?_
    refine Cl_mono P ?_
    rintro _ μ5 ⟨r6, rfl, P⟩
    show Z SS none mX8_findsSpans (d + 1) 0 0 (qV Q) 36 [some (.ref 54), some (vi x1), some (vi x2), none, none] [vi r6, .long ((gL μ 58 x1)), vi x1, .ref 58] μ5 0 0
    have K : ∀ t9 : Int64, t9 = (if r6 = 0 then (0 : Int64) else ((1 : Int64) <<< ((Int32.ofInt x2).toInt64 &&& 63))) → Z SS none mX8_findsSpans (d + 1) 0 0 (qV Q) 46 [some (.ref 54), some (vi x1), some (vi x2), none, none] [.long (t9), .long ((gL μ 58 x1)), vi x1, .ref 58] μ5 0 0 := by
      rintro _ rfl
      have P := P.2
      refine Z_lor (pc' := 47) dX8_findsSpans_46 rfl ?_
      refine Z_lastore (pc' := 48) dX8_findsSpans_47 rfl (Or.inl dd_58) (Nat.le_of_ble_eq_true rfl) h3 h4 ?_
      refine Z_iinc (pc' := 51) (lo' := [some (.ref 54), some (vi x1), some (vi (x2 + 1)), none, none]) dX8_findsSpans_48 rfl (by decide) rfl rfl ?_
      refine Z_goto (tgt := 17) dX8_findsSpans_51 (by decide) ?_
      exact P
    have G := P.1
    have h7 := G
    refine Z_if_eq (tgt := 45) (pc' := 39) dX8_findsSpans_36 (by decide) rfl h7 (fun c8 => ?_) (fun c8 => ?_)
    · refine Z_lconst (pc' := 46) (v := 0) dX8_findsSpans_45 rfl rfl ?_
      refine Z_wk [true, true, true, false, false] rfl ?_
      exact K _ (by rw [if_pos c8])
    · refine Z_lconst (pc' := 40) (v := 1) dX8_findsSpans_39 rfl rfl ?_
      refine Z_iload_n (pc' := 41) dX8_findsSpans_40 rfl rfl ?_
      refine Z_lshl (pc' := 42) dX8_findsSpans_41 rfl ?_
      refine Z_goto (tgt := 46) dX8_findsSpans_42 (by decide) ?_
      refine Z_wk [true, true, true, false, false] rfl ?_
      exact K _ (by rw [if_neg c8])
theorem bX8_findsSpans_78 {d : Nat} {Q : zMem → Prop} {μ : zMem} {x1 : Int} {y2 : Int64} {x4 : Int} (P : (zIn x4) ∧ ((36 ≤ x4 → (zX8_findsSpans_62 d Q (x1 + 1) μ)) ∧ (¬ (36 ≤ x4) → ((0 ≤ x4) ∧ ((x4 < 36) ∧ (kX8_notesSpan d ((36 * (x4 - x1)) + x1) (y2 &&& (gL μ 58 x4)) μ (fun μ5 : zMem => zX8_findsSpans_78 d Q x1 (y2 &&& (gL μ 58 x4)) (x4 + 1) μ5))))))) : zX8_findsSpans_78 d Q x1 y2 x4 μ := by
  refine Z_iload (pc' := 80) dX8_findsSpans_78 rfl rfl ?_
  refine Z_bipush (pc' := 82) dX8_findsSpans_80 rfl rfl ?_
  have h1 := P.1
  have P := P.2
  refine Z_icmp_ge (tgt := 115) (pc' := 85) dX8_findsSpans_82 (by decide) rfl h1 (z_lit rfl) (fun c2 => ?_) (fun c2 => ?_)
  · have P := P.1 c2
    refine Z_iinc (pc' := 118) (lo' := [some (.ref 54), some (vi (x1 + 1)), some (.long (y2)), none, some (vi x4)]) dX8_findsSpans_115 rfl (by decide) rfl rfl ?_
    refine Z_goto (tgt := 62) dX8_findsSpans_118 (by decide) ?_
    refine Z_wk [true, true, false, true, false] rfl ?_
    exact P
  · have P := P.2 c2
    refine Z_lload_n (pc' := 86) dX8_findsSpans_85 rfl rfl ?_
    refine Z_aload_n (pc' := 87) dX8_findsSpans_86 rfl rfl ?_
    refine Z_getR (q := 58) (pc' := 90) dX8_findsSpans_87 rfl fX8_19 rfl (Or.inl dd_54) (Or.inl rr_54_4) ?_
    refine Z_iload (pc' := 92) dX8_findsSpans_90 rfl rfl ?_
    have h3 := P.1
    have P := P.2
    have h4 := P.1
    have P := P.2
    refine Z_laload (pc' := 93) dX8_findsSpans_92 rfl (Or.inl dd_58) (Nat.le_of_ble_eq_true rfl) h3 h4 ?_
    refine Z_land (pc' := 94) dX8_findsSpans_93 rfl ?_
    refine Z_lstore_n (pc' := 95) (lo' := [some (.ref 54), some (vi x1), some (.long ((y2 &&& (gL μ 58 x4)))), none, some (vi x4)]) dX8_findsSpans_94 rfl (by decide) rfl ?_
    refine Z_aload_n (pc' := 96) dX8_findsSpans_95 rfl rfl ?_
    refine Z_bipush (pc' := 98) dX8_findsSpans_96 rfl rfl ?_
    refine Z_iload (pc' := 100) dX8_findsSpans_98 rfl rfl ?_
    refine Z_iload_n (pc' := 101) dX8_findsSpans_100 rfl rfl ?_
    refine Z_isub (pc' := 102) dX8_findsSpans_101 rfl ?_
    refine Z_imul (pc' := 103) dX8_findsSpans_102 rfl ?_
    refine Z_iload_n (pc' := 104) dX8_findsSpans_103 rfl rfl ?_
    refine Z_iadd (pc' := 105) dX8_findsSpans_104 rfl ?_
    refine Z_lload_n (pc' := 106) dX8_findsSpans_105 rfl rfl ?_
    refine Z_callV0 (M' := mX8_notesSpan) (pc' := 109) (st := []) [vi ((36 * (x4 - x1)) + x1), .long ((y2 &&& (gL μ 58 x4)))] dX8_findsSpans_106 rfl vX8_notesSpan lX8_79 (Or.inl dd_54) rfl (Nat.le_of_ble_eq_true rfl) (Nat.le_refl 0) (Nat.le_refl 0) ?_
    refine Cl_mono P ?_
    rintro _ μ5 ⟨rfl, P⟩
    show Z SS none mX8_findsSpans (d + 1) 0 0 (qV Q) 109 [some (.ref 54), some (vi x1), some (.long ((y2 &&& (gL μ 58 x4)))), none, some (vi x4)] [] μ5 0 0
    refine Z_iinc (pc' := 112) (lo' := [some (.ref 54), some (vi x1), some (.long ((y2 &&& (gL μ 58 x4)))), none, some (vi (x4 + 1))]) dX8_findsSpans_109 rfl (by decide) rfl rfl ?_
    refine Z_goto (tgt := 78) dX8_findsSpans_112 (by decide) ?_
    exact P
theorem bX8_span {d : Nat} {Q : Int → zMem → Prop} {μ : zMem} {x1 : Int} {x2 : Int} {x3 : Int} (P : kX8_in d x1 0 35 μ (fun (r2 : Int) (μ1 : zMem) => (zIn r2) ∧ ((r2 = 0 → (Q (-3) μ1)) ∧ (¬ (r2 = 0) → (kX8_in d x2 1 (36 - x1) μ1 (fun (r6 : Int) (μ5 : zMem) => (zIn r6) ∧ ((r6 = 0 → (Q (-3) μ5)) ∧ (¬ (r6 = 0) → (kX8_in d x3 0 1 μ5 (fun (r10 : Int) (μ9 : zMem) => (zIn r10) ∧ ((r10 = 0 → (Q (-3) μ9)) ∧ (¬ (r10 = 0) → (kX8_findsSpans d μ9 (fun μ13 : zMem => ((zIn x3) ∧ ((x3 = 0 → ((0 ≤ ((36 * (x2 - 1)) + x1)) ∧ ((((36 * (x2 - 1)) + x1) < 1296)))) ∧ (¬ (x3 = 0) → ((0 ≤ ((36 * (x2 - 1)) + x1)) ∧ ((((36 * (x2 - 1)) + x1) < 1296)))))) ∧ (Q (if x3 = 0 then (gI μ13 56 ((36 * (x2 - 1)) + x1)) else (gI μ13 57 ((36 * (x2 - 1)) + x1))) μ13))))))))))))))) : kX8_span (d + 1) x1 x2 x3 μ Q := by
  refine Cl_of rfl (Nat.le_of_ble_eq_true rfl) rfl ?_
  show Z SS none mX8_span (d + 1) 0 0 (qI Q) 0 [some (.ref 54), some (vi x1), some (vi x2), some (vi x3)] [] μ 0 0
  refine Z_iload_n (pc' := 1) dX8_span_0 rfl rfl ?_
  refine Z_iconst (pc' := 2) dX8_span_1 rfl ?_
  refine Z_bipush (pc' := 4) dX8_span_2 rfl rfl ?_
  refine Z_callS0 (M' := mX8_in) (pc' := 7) (st := []) [vi x1, vi 0, vi 35] dX8_span_4 rfl sX8_in lX8_53 rfl (Nat.le_of_ble_eq_true rfl) (Nat.le_refl 0) (Nat.le_refl 0) ?_
  refine Cl_mono P ?_
  rintro _ μ1 ⟨r2, rfl, P⟩
  show Z SS none mX8_span (d + 1) 0 0 (qI Q) 7 [some (.ref 54), some (vi x1), some (vi x2), some (vi x3)] [vi r2] μ1 0 0
  have h3 := P.1
  have P := P.2
  refine Z_if_eq (tgt := 31) (pc' := 10) dX8_span_7 (by decide) rfl h3 (fun c4 => ?_) (fun c4 => ?_)
  · have P := P.1 c4
    refine Z_bipush (pc' := 33) dX8_span_31 rfl rfl ?_
    exact Z_ireturn dX8_span_33 rfl (Nat.le_refl 0) (Nat.le_refl 0) P
  · have P := P.2 c4
    refine Z_iload_n (pc' := 11) dX8_span_10 rfl rfl ?_
    refine Z_iconst (pc' := 12) dX8_span_11 rfl ?_
    refine Z_bipush (pc' := 14) dX8_span_12 rfl rfl ?_
    refine Z_iload_n (pc' := 15) dX8_span_14 rfl rfl ?_
    refine Z_isub (pc' := 16) dX8_span_15 rfl ?_
    refine Z_callS0 (M' := mX8_in) (pc' := 19) (st := []) [vi x2, vi 1, vi (36 - x1)] dX8_span_16 rfl sX8_in lX8_53 rfl (Nat.le_of_ble_eq_true rfl) (Nat.le_refl 0) (Nat.le_refl 0) ?_
    refine Cl_mono P ?_
    rintro _ μ5 ⟨r6, rfl, P⟩
    show Z SS none mX8_span (d + 1) 0 0 (qI Q) 19 [some (.ref 54), some (vi x1), some (vi x2), some (vi x3)] [vi r6] μ5 0 0
    have h7 := P.1
    have P := P.2
    refine Z_if_eq (tgt := 31) (pc' := 22) dX8_span_19 (by decide) rfl h7 (fun c8 => ?_) (fun c8 => ?_)
    · have P := P.1 c8
      refine Z_bipush (pc' := 33) dX8_span_31 rfl rfl ?_
      exact Z_ireturn dX8_span_33 rfl (Nat.le_refl 0) (Nat.le_refl 0) P
    · have P := P.2 c8
      refine Z_iload_n (pc' := 23) dX8_span_22 rfl rfl ?_
      refine Z_iconst (pc' := 24) dX8_span_23 rfl ?_
      refine Z_iconst (pc' := 25) dX8_span_24 rfl ?_
      refine Z_callS0 (M' := mX8_in) (pc' := 28) (st := []) [vi x3, vi 0, vi 1] dX8_span_25 rfl sX8_in lX8_53 rfl (Nat.le_of_ble_eq_true rfl) (Nat.le_refl 0) (Nat.le_refl 0) ?_
      refine Cl_mono P ?_
      rintro _ μ9 ⟨r10, rfl, P⟩
      show Z SS none mX8_span (d + 1) 0 0 (qI Q) 28 [some (.ref 54), some (vi x1), some (vi x2), some (vi x3)] [vi r10] μ9 0 0
      have h11 := P.1
      have P := P.2
      refine Z_if_ne (tgt := 34) (pc' := 31) dX8_span_28 (by decide) rfl h11 (fun c12 => ?_) (fun c12 => ?_)
      · have P := P.2 c12
        refine Z_aload_n (pc' := 35) dX8_span_34 rfl rfl ?_
        refine Z_callV0 (M' := mX8_findsSpans) (pc' := 38) (st := []) [] dX8_span_35 rfl vX8_findsSpans lX8_83 (Or.inl dd_54) rfl (Nat.le_of_ble_eq_true rfl) (Nat.le_refl 0) (Nat.le_refl 0) ?_
        refine Cl_mono P ?_
        rintro _ μ13 ⟨rfl, P⟩
        show Z SS none mX8_span (d + 1) 0 0 (qI Q) 38 [some (.ref 54), some (vi x1), some (vi x2), some (vi x3)] [] μ13 0 0
        refine Z_iload_n (pc' := 39) dX8_span_38 rfl rfl ?_
        have K : ∀ t20 : Int, t20 = (if x3 = 0 then (gI μ13 56 ((36 * (x2 - 1)) + x1)) else (gI μ13 57 ((36 * (x2 - 1)) + x1))) → Z SS none mX8_span (d + 1) 0 0 (qI Q) 71 [some (.ref 54), some (vi x1), some (vi x2), some (vi x3)] [vi t20] μ13 0 0 := by
          rintro _ rfl
          have P := P.2
          exact Z_ireturn dX8_span_71 rfl (Nat.le_refl 0) (Nat.le_refl 0) P
        have G := P.1
        have h14 := G.1
        have G := G.2
        refine Z_if_ne (tgt := 58) (pc' := 42) dX8_span_39 (by decide) rfl h14 (fun c15 => ?_) (fun c15 => ?_)
        · have G := G.2 c15
          refine Z_aload_n (pc' := 59) dX8_span_58 rfl rfl ?_
          refine Z_getR (q := 57) (pc' := 62) dX8_span_59 rfl fX8_16 rfl (Or.inl dd_54) (Or.inl rr_54_3) ?_
          refine Z_bipush (pc' := 64) dX8_span_62 rfl rfl ?_
          refine Z_iload_n (pc' := 65) dX8_span_64 rfl rfl ?_
          refine Z_iconst (pc' := 66) dX8_span_65 rfl ?_
          refine Z_isub (pc' := 67) dX8_span_66 rfl ?_
          refine Z_imul (pc' := 68) dX8_span_67 rfl ?_
          refine Z_iload_n (pc' := 69) dX8_span_68 rfl rfl ?_
          refine Z_iadd (pc' := 70) dX8_span_69 rfl ?_
          have h18 := G.1
          have G := G.2
          have h19 := G
          refine Z_iaload (pc' := 71) dX8_span_70 rfl (Or.inl dd_57) (Nat.le_of_ble_eq_true rfl) h18 h19 ?_
          exact K _ (by rw [if_neg c15])
        · have G := G.1 c15
          refine Z_aload_n (pc' := 43) dX8_span_42 rfl rfl ?_
          refine Z_getR (q := 56) (pc' := 46) dX8_span_43 rfl fX8_13 rfl (Or.inl dd_54) (Or.inl rr_54_2) ?_
          refine Z_bipush (pc' := 48) dX8_span_46 rfl rfl ?_
          refine Z_iload_n (pc' := 49) dX8_span_48 rfl rfl ?_
          refine Z_iconst (pc' := 50) dX8_span_49 rfl ?_
          refine Z_isub (pc' := 51) dX8_span_50 rfl ?_
          refine Z_imul (pc' := 52) dX8_span_51 rfl ?_
          refine Z_iload_n (pc' := 53) dX8_span_52 rfl rfl ?_
          refine Z_iadd (pc' := 54) dX8_span_53 rfl ?_
          have h16 := G.1
          have G := G.2
          have h17 := G
          refine Z_iaload (pc' := 55) dX8_span_54 rfl (Or.inl dd_56) (Nat.le_of_ble_eq_true rfl) h16 h17 ?_
          refine Z_goto (tgt := 71) dX8_span_55 (by decide) ?_
          exact K _ (by rw [if_pos c15])
      · have P := P.1 c12
        refine Z_bipush (pc' := 33) dX8_span_31 rfl rfl ?_
        exact Z_ireturn dX8_span_33 rfl (Nat.le_refl 0) (Nat.le_refl 0) P
theorem bX8_of {d : Nat} {Q : Int → zMem → Prop} {μ : zMem} {x1 : Int} {x2 : Int} (P : (0 ≤ ((32 + (3 * x1)) + x2)) ∧ ((((32 + (3 * x1)) + x2) < 1285) ∧ (Q (gI μ 55 ((32 + (3 * x1)) + x2)) μ))) : kX8_of d x1 x2 μ Q := by
  refine Cl_of rfl (Nat.le_of_ble_eq_true rfl) rfl ?_
  show Z SS none mX8_of d 0 0 (qI Q) 0 [some (.ref 54), some (vi x1), some (vi x2)] [] μ 0 0
  refine Z_aload_n (pc' := 1) dX8_of_0 rfl rfl ?_
  refine Z_getR (q := 55) (pc' := 4) dX8_of_1 rfl fX8_7 rfl (Or.inl dd_54) (Or.inl rr_54_0) ?_
  refine Z_bipush (pc' := 6) dX8_of_4 rfl rfl ?_
  refine Z_iconst (pc' := 7) dX8_of_6 rfl ?_
  refine Z_iload_n (pc' := 8) dX8_of_7 rfl rfl ?_
  refine Z_imul (pc' := 9) dX8_of_8 rfl ?_
  refine Z_iadd (pc' := 10) dX8_of_9 rfl ?_
  refine Z_iload_n (pc' := 11) dX8_of_10 rfl rfl ?_
  refine Z_iadd (pc' := 12) dX8_of_11 rfl ?_
  have h1 := P.1
  have P := P.2
  have h2 := P.1
  have P := P.2
  refine Z_iaload (pc' := 13) dX8_of_12 rfl (Or.inl dd_55) (Nat.le_of_ble_eq_true rfl) h1 h2 ?_
  exact Z_ireturn dX8_of_13 rfl (Nat.le_refl 0) (Nat.le_refl 0) P
theorem bX8_isWord {d : Nat} {Q : Int → zMem → Prop} {μ : zMem} {x1 : Int} (P : kX8_in d x1 0 ((gI μ 55 31) - 1) μ (fun (r2 : Int) (μ1 : zMem) => (r2 = 0 ∨ r2 = 1) ∧ (Q r2 μ1))) : kX8_isWord (d + 1) x1 μ Q := by
  refine Cl_of rfl (Nat.le_of_ble_eq_true rfl) rfl ?_
  show Z SS none mX8_isWord (d + 1) 0 0 (qI Q) 0 [some (.ref 54), some (vi x1)] [] μ 0 0
  refine Z_iload_n (pc' := 1) dX8_isWord_0 rfl rfl ?_
  refine Z_iconst (pc' := 2) dX8_isWord_1 rfl ?_
  refine Z_aload_n (pc' := 3) dX8_isWord_2 rfl rfl ?_
  refine Z_getR (q := 55) (pc' := 6) dX8_isWord_3 rfl fX8_7 rfl (Or.inl dd_54) (Or.inl rr_54_0) ?_
  refine Z_bipush (pc' := 8) dX8_isWord_6 rfl rfl ?_
  refine Z_iaload (pc' := 9) dX8_isWord_8 rfl (Or.inl dd_55) (Nat.le_of_ble_eq_true rfl) (by decide) (by decide) ?_
  refine Z_iconst (pc' := 10) dX8_isWord_9 rfl ?_
  refine Z_isub (pc' := 11) dX8_isWord_10 rfl ?_
  refine Z_callS0 (M' := mX8_in) (pc' := 14) (st := []) [vi x1, vi 0, vi ((gI μ 55 31) - 1)] dX8_isWord_11 rfl sX8_in lX8_53 rfl (Nat.le_of_ble_eq_true rfl) (Nat.le_refl 0) (Nat.le_refl 0) ?_
  refine Cl_mono P ?_
  rintro _ μ1 ⟨r2, rfl, P⟩
  show Z SS none mX8_isWord (d + 1) 0 0 (qI Q) 14 [some (.ref 54), some (vi x1)] [vi r2] μ1 0 0
  have h3 := P.1
  have P := P.2
  exact Z_zreturn dX8_isWord_14 rfl h3 (Nat.le_refl 0) (Nat.le_refl 0) P
theorem bX8_becomes {d : Nat} {Q : zMem → Prop} {μ : zMem} {x1 : Int} {x2 : Int} {x3 : Int} {x4 : Int} (P : (0 ≤ (32 + (3 * x1))) ∧ (((32 + (3 * x1)) < 1285) ∧ ((0 ≤ ((32 + (3 * x1)) + 1)) ∧ ((((32 + (3 * x1)) + 1) < 1285) ∧ ((0 ≤ ((32 + (3 * x1)) + 2)) ∧ ((((32 + (3 * x1)) + 2) < 1285) ∧ (Q (sI (sI (sI μ 55 (32 + (3 * x1)) x2) 55 ((32 + (3 * x1)) + 1) x3) 55 ((32 + (3 * x1)) + 2) x4)))))))) : kX8_becomes d x1 x2 x3 x4 μ Q := by
  refine Cl_of rfl (Nat.le_of_ble_eq_true rfl) rfl ?_
  show Z SS none mX8_becomes d 0 0 (qV Q) 0 [some (.ref 54), some (vi x1), some (vi x2), some (vi x3), some (vi x4)] [] μ 0 0
  refine Z_aload_n (pc' := 1) dX8_becomes_0 rfl rfl ?_
  refine Z_getR (q := 55) (pc' := 4) dX8_becomes_1 rfl fX8_7 rfl (Or.inl dd_54) (Or.inl rr_54_0) ?_
  refine Z_bipush (pc' := 6) dX8_becomes_4 rfl rfl ?_
  refine Z_iconst (pc' := 7) dX8_becomes_6 rfl ?_
  refine Z_iload_n (pc' := 8) dX8_becomes_7 rfl rfl ?_
  refine Z_imul (pc' := 9) dX8_becomes_8 rfl ?_
  refine Z_iadd (pc' := 10) dX8_becomes_9 rfl ?_
  refine Z_iload_n (pc' := 11) dX8_becomes_10 rfl rfl ?_
  have h1 := P.1
  have P := P.2
  have h2 := P.1
  have P := P.2
  refine Z_iastore (pc' := 12) dX8_becomes_11 rfl (Or.inl dd_55) (Nat.le_of_ble_eq_true rfl) h1 h2 ?_
  refine Z_aload_n (pc' := 13) dX8_becomes_12 rfl rfl ?_
  refine Z_getR (q := 55) (pc' := 16) dX8_becomes_13 rfl fX8_7 rfl (Or.inl dd_54) (Or.inl rr_54_0) ?_
  refine Z_bipush (pc' := 18) dX8_becomes_16 rfl rfl ?_
  refine Z_iconst (pc' := 19) dX8_becomes_18 rfl ?_
  refine Z_iload_n (pc' := 20) dX8_becomes_19 rfl rfl ?_
  refine Z_imul (pc' := 21) dX8_becomes_20 rfl ?_
  refine Z_iadd (pc' := 22) dX8_becomes_21 rfl ?_
  refine Z_iconst (pc' := 23) dX8_becomes_22 rfl ?_
  refine Z_iadd (pc' := 24) dX8_becomes_23 rfl ?_
  refine Z_iload_n (pc' := 25) dX8_becomes_24 rfl rfl ?_
  have h3 := P.1
  have P := P.2
  have h4 := P.1
  have P := P.2
  refine Z_iastore (pc' := 26) dX8_becomes_25 rfl (Or.inl dd_55) (Nat.le_of_ble_eq_true rfl) h3 h4 ?_
  refine Z_aload_n (pc' := 27) dX8_becomes_26 rfl rfl ?_
  refine Z_getR (q := 55) (pc' := 30) dX8_becomes_27 rfl fX8_7 rfl (Or.inl dd_54) (Or.inl rr_54_0) ?_
  refine Z_bipush (pc' := 32) dX8_becomes_30 rfl rfl ?_
  refine Z_iconst (pc' := 33) dX8_becomes_32 rfl ?_
  refine Z_iload_n (pc' := 34) dX8_becomes_33 rfl rfl ?_
  refine Z_imul (pc' := 35) dX8_becomes_34 rfl ?_
  refine Z_iadd (pc' := 36) dX8_becomes_35 rfl ?_
  refine Z_iconst (pc' := 37) dX8_becomes_36 rfl ?_
  refine Z_iadd (pc' := 38) dX8_becomes_37 rfl ?_
  refine Z_iload (pc' := 40) dX8_becomes_38 rfl rfl ?_
  have h5 := P.1
  have P := P.2
  have h6 := P.1
  have P := P.2
  refine Z_iastore (pc' := 41) dX8_becomes_40 rfl (Or.inl dd_55) (Nat.le_of_ble_eq_true rfl) h5 h6 ?_
  exact Z_return dX8_becomes_41 rfl (Nat.le_refl 0) (Nat.le_refl 0) P
theorem bX8_addWord {d : Nat} {Q : Int → zMem → Prop} {μ : zMem} {x1 : Int} {x2 : Int} (P : kX8_in d x1 1 12 μ (fun (r2 : Int) (μ1 : zMem) => (zIn r2) ∧ ((r2 = 0 → (Q (-3) μ1)) ∧ (¬ (r2 = 0) → (kX8_in d x2 1 3 μ1 (fun (r6 : Int) (μ5 : zMem) => (zIn r6) ∧ ((r6 = 0 → (Q (-3) μ5)) ∧ (¬ (r6 = 0) → ((zIn (gI μ5 55 31)) ∧ (((gI μ5 55 31) = 14 → (Q (-5) μ5)) ∧ (¬ ((gI μ5 55 31) = 14) → (kX8_records d μ5 (fun μ11 : zMem => kX8_becomes d (gI μ11 55 31) x1 x2 0 μ11 (fun μ12 : zMem => Q ((gI (sI μ12 55 31 ((gI μ12 55 31) + 1)) 55 31) - 1) (sI μ12 55 31 ((gI μ12 55 31) + 1)))))))))))))))) : kX8_addWord (d + 1) x1 x2 μ Q := by
  refine Cl_of rfl (Nat.le_of_ble_eq_true rfl) rfl ?_
  show Z SS none mX8_addWord (d + 1) 0 0 (qI Q) 0 [some (.ref 54), some (vi x1), some (vi x2)] [] μ 0 0
  refine Z_iload_n (pc' := 1) dX8_addWord_0 rfl rfl ?_
  refine Z_iconst (pc' := 2) dX8_addWord_1 rfl ?_
  refine Z_bipush (pc' := 4) dX8_addWord_2 rfl rfl ?_
  refine Z_callS0 (M' := mX8_in) (pc' := 7) (st := []) [vi x1, vi 1, vi 12] dX8_addWord_4 rfl sX8_in lX8_53 rfl (Nat.le_of_ble_eq_true rfl) (Nat.le_refl 0) (Nat.le_refl 0) ?_
  refine Cl_mono P ?_
  rintro _ μ1 ⟨r2, rfl, P⟩
  show Z SS none mX8_addWord (d + 1) 0 0 (qI Q) 7 [some (.ref 54), some (vi x1), some (vi x2)] [vi r2] μ1 0 0
  have h3 := P.1
  have P := P.2
  refine Z_if_eq (tgt := 19) (pc' := 10) dX8_addWord_7 (by decide) rfl h3 (fun c4 => ?_) (fun c4 => ?_)
  · have P := P.1 c4
    refine Z_bipush (pc' := 21) dX8_addWord_19 rfl rfl ?_
    exact Z_ireturn dX8_addWord_21 rfl (Nat.le_refl 0) (Nat.le_refl 0) P
  · have P := P.2 c4
    refine Z_iload_n (pc' := 11) dX8_addWord_10 rfl rfl ?_
    refine Z_iconst (pc' := 12) dX8_addWord_11 rfl ?_
    refine Z_iconst (pc' := 13) dX8_addWord_12 rfl ?_
    refine Z_callS0 (M' := mX8_in) (pc' := 16) (st := []) [vi x2, vi 1, vi 3] dX8_addWord_13 rfl sX8_in lX8_53 rfl (Nat.le_of_ble_eq_true rfl) (Nat.le_refl 0) (Nat.le_refl 0) ?_
    refine Cl_mono P ?_
    rintro _ μ5 ⟨r6, rfl, P⟩
    show Z SS none mX8_addWord (d + 1) 0 0 (qI Q) 16 [some (.ref 54), some (vi x1), some (vi x2)] [vi r6] μ5 0 0
    have h7 := P.1
    have P := P.2
    refine Z_if_ne (tgt := 22) (pc' := 19) dX8_addWord_16 (by decide) rfl h7 (fun c8 => ?_) (fun c8 => ?_)
    · have P := P.2 c8
      refine Z_aload_n (pc' := 23) dX8_addWord_22 rfl rfl ?_
      refine Z_getR (q := 55) (pc' := 26) dX8_addWord_23 rfl fX8_7 rfl (Or.inl dd_54) (Or.inl rr_54_0) ?_
      refine Z_bipush (pc' := 28) dX8_addWord_26 rfl rfl ?_
      refine Z_iaload (pc' := 29) dX8_addWord_28 rfl (Or.inl dd_55) (Nat.le_of_ble_eq_true rfl) (by decide) (by decide) ?_
      refine Z_bipush (pc' := 31) dX8_addWord_29 rfl rfl ?_
      have h9 := P.1
      have P := P.2
      refine Z_icmp_ne (tgt := 37) (pc' := 34) dX8_addWord_31 (by decide) rfl h9 (z_lit rfl) (fun c10 => ?_) (fun c10 => ?_)
      · have P := P.2 c10
        refine Z_aload_n (pc' := 38) dX8_addWord_37 rfl rfl ?_
        refine Z_callV0 (M' := mX8_records) (pc' := 41) (st := []) [] dX8_addWord_38 rfl vX8_records lX8_68 (Or.inl dd_54) rfl (Nat.le_of_ble_eq_true rfl) (Nat.le_refl 0) (Nat.le_refl 0) ?_
        refine Cl_mono P ?_
        rintro _ μ11 ⟨rfl, P⟩
        show Z SS none mX8_addWord (d + 1) 0 0 (qI Q) 41 [some (.ref 54), some (vi x1), some (vi x2)] [] μ11 0 0
        refine Z_aload_n (pc' := 42) dX8_addWord_41 rfl rfl ?_
        refine Z_aload_n (pc' := 43) dX8_addWord_42 rfl rfl ?_
        refine Z_getR (q := 55) (pc' := 46) dX8_addWord_43 rfl fX8_7 rfl (Or.inl dd_54) (Or.inl rr_54_0) ?_
        refine Z_bipush (pc' := 48) dX8_addWord_46 rfl rfl ?_
        refine Z_iaload (pc' := 49) dX8_addWord_48 rfl (Or.inl dd_55) (Nat.le_of_ble_eq_true rfl) (by decide) (by decide) ?_
        refine Z_iload_n (pc' := 50) dX8_addWord_49 rfl rfl ?_
        refine Z_iload_n (pc' := 51) dX8_addWord_50 rfl rfl ?_
        refine Z_iconst (pc' := 52) dX8_addWord_51 rfl ?_
        refine Z_callV0 (M' := mX8_becomes) (pc' := 55) (st := []) [vi (gI μ11 55 31), vi x1, vi x2, vi 0] dX8_addWord_52 rfl vX8_becomes lX8_86 (Or.inl dd_54) rfl (Nat.le_of_ble_eq_true rfl) (Nat.le_refl 0) (Nat.le_refl 0) ?_
        refine Cl_mono P ?_
        rintro _ μ12 ⟨rfl, P⟩
        show Z SS none mX8_addWord (d + 1) 0 0 (qI Q) 55 [some (.ref 54), some (vi x1), some (vi x2)] [] μ12 0 0
        refine Z_aload_n (pc' := 56) dX8_addWord_55 rfl rfl ?_
        refine Z_getR (q := 55) (pc' := 59) dX8_addWord_56 rfl fX8_7 rfl (Or.inl dd_54) (Or.inl rr_54_0) ?_
        refine Z_bipush (pc' := 61) dX8_addWord_59 rfl rfl ?_
        refine Z_dup2 (pc' := 62) dX8_addWord_61 rfl rfl rfl ?_
        refine Z_iaload (pc' := 63) dX8_addWord_62 rfl (Or.inl dd_55) (Nat.le_of_ble_eq_true rfl) (by decide) (by decide) ?_
        refine Z_iconst (pc' := 64) dX8_addWord_63 rfl ?_
        refine Z_iadd (pc' := 65) dX8_addWord_64 rfl ?_
        refine Z_iastore (pc' := 66) dX8_addWord_65 rfl (Or.inl dd_55) (Nat.le_of_ble_eq_true rfl) (by decide) (by decide) ?_
        refine Z_aload_n (pc' := 67) dX8_addWord_66 rfl rfl ?_
        refine Z_getR (q := 55) (pc' := 70) dX8_addWord_67 rfl fX8_7 rfl (Or.inl dd_54) (Or.inl rr_54_0) ?_
        refine Z_bipush (pc' := 72) dX8_addWord_70 rfl rfl ?_
        refine Z_iaload (pc' := 73) dX8_addWord_72 rfl (Or.inl dd_55) (Nat.le_of_ble_eq_true rfl) (by decide) (by decide) ?_
        refine Z_iconst (pc' := 74) dX8_addWord_73 rfl ?_
        refine Z_isub (pc' := 75) dX8_addWord_74 rfl ?_
        exact Z_ireturn dX8_addWord_75 rfl (Nat.le_refl 0) (Nat.le_refl 0) P
      · have P := P.1 c10
        refine Z_bipush (pc' := 36) dX8_addWord_34 rfl rfl ?_
        exact Z_ireturn dX8_addWord_36 rfl (Nat.le_refl 0) (Nat.le_refl 0) P
    · have P := P.1 c8
      refine Z_bipush (pc' := 21) dX8_addWord_19 rfl rfl ?_
      exact Z_ireturn dX8_addWord_21 rfl (Nat.le_refl 0) (Nat.le_refl 0) P
theorem bX8_setWord {d : Nat} {Q : Int → zMem → Prop} {μ : zMem} {x1 : Int} {x2 : Int} {x3 : Int} {x4 : Int} (P : kX8_isWord d x1 μ (fun (r2 : Int) (μ1 : zMem) => (zIn r2) ∧ ((r2 = 0 → (Q (-2) μ1)) ∧ (¬ (r2 = 0) → (kX8_in d x2 1 12 μ1 (fun (r6 : Int) (μ5 : zMem) => (zIn r6) ∧ ((r6 = 0 → (Q (-3) μ5)) ∧ (¬ (r6 = 0) → (kX8_in d x3 1 3 μ5 (fun (r10 : Int) (μ9 : zMem) => (zIn r10) ∧ ((r10 = 0 → (Q (-3) μ9)) ∧ (¬ (r10 = 0) → (kX8_records d μ9 (fun μ13 : zMem => kX8_of d x1 0 μ13 (fun (r15 : Int) (μ14 : zMem) => ((zIn x4)) ∧ (kX8_becomes d x1 x2 x3 (if x4 = 0 then 0 else 1) μ14 (fun μ19 : zMem => Q r15 μ19))))))))))))))))) : kX8_setWord (d + 1) x1 x2 x3 x4 μ Q := by
  refine Cl_of rfl (Nat.le_of_ble_eq_true rfl) rfl ?_
  show Z SS none mX8_setWord (d + 1) 0 0 (qI Q) 0 [some (.ref 54), some (vi x1), some (vi x2), some (vi x3), some (vi x4), none] [] μ 0 0
  refine Z_aload_n (pc' := 1) dX8_setWord_0 rfl rfl ?_
  refine Z_iload_n (pc' := 2) dX8_setWord_1 rfl rfl ?_
  refine Z_callV0 (M' := mX8_isWord) (pc' := 5) (st := []) [vi x1] dX8_setWord_2 rfl vX8_isWord lX8_90 (Or.inl dd_54) rfl (Nat.le_of_ble_eq_true rfl) (Nat.le_refl 0) (Nat.le_refl 0) ?_
  refine Cl_mono P ?_
  rintro _ μ1 ⟨r2, rfl, P⟩
  show Z SS none mX8_setWord (d + 1) 0 0 (qI Q) 5 [some (.ref 54), some (vi x1), some (vi x2), some (vi x3), some (vi x4), none] [vi r2] μ1 0 0
  have h3 := P.1
  have P := P.2
  refine Z_if_ne (tgt := 11) (pc' := 8) dX8_setWord_5 (by decide) rfl h3 (fun c4 => ?_) (fun c4 => ?_)
  · have P := P.2 c4
    refine Z_iload_n (pc' := 12) dX8_setWord_11 rfl rfl ?_
    refine Z_iconst (pc' := 13) dX8_setWord_12 rfl ?_
    refine Z_bipush (pc' := 15) dX8_setWord_13 rfl rfl ?_
    refine Z_callS0 (M' := mX8_in) (pc' := 18) (st := []) [vi x2, vi 1, vi 12] dX8_setWord_15 rfl sX8_in lX8_53 rfl (Nat.le_of_ble_eq_true rfl) (Nat.le_refl 0) (Nat.le_refl 0) ?_
    refine Cl_mono P ?_
    rintro _ μ5 ⟨r6, rfl, P⟩
    show Z SS none mX8_setWord (d + 1) 0 0 (qI Q) 18 [some (.ref 54), some (vi x1), some (vi x2), some (vi x3), some (vi x4), none] [vi r6] μ5 0 0
    have h7 := P.1
    have P := P.2
    refine Z_if_eq (tgt := 30) (pc' := 21) dX8_setWord_18 (by decide) rfl h7 (fun c8 => ?_) (fun c8 => ?_)
    · have P := P.1 c8
      refine Z_bipush (pc' := 32) dX8_setWord_30 rfl rfl ?_
      exact Z_ireturn dX8_setWord_32 rfl (Nat.le_refl 0) (Nat.le_refl 0) P
    · have P := P.2 c8
      refine Z_iload_n (pc' := 22) dX8_setWord_21 rfl rfl ?_
      refine Z_iconst (pc' := 23) dX8_setWord_22 rfl ?_
      refine Z_iconst (pc' := 24) dX8_setWord_23 rfl ?_
      refine Z_callS0 (M' := mX8_in) (pc' := 27) (st := []) [vi x3, vi 1, vi 3] dX8_setWord_24 rfl sX8_in lX8_53 rfl (Nat.le_of_ble_eq_true rfl) (Nat.le_refl 0) (Nat.le_refl 0) ?_
      refine Cl_mono P ?_
      rintro _ μ9 ⟨r10, rfl, P⟩
      show Z SS none mX8_setWord (d + 1) 0 0 (qI Q) 27 [some (.ref 54), some (vi x1), some (vi x2), some (vi x3), some (vi x4), none] [vi r10] μ9 0 0
      have h11 := P.1
      have P := P.2
      refine Z_if_ne (tgt := 33) (pc' := 30) dX8_setWord_27 (by decide) rfl h11 (fun c12 => ?_) (fun c12 => ?_)
      · have P := P.2 c12
        refine Z_aload_n (pc' := 34) dX8_setWord_33 rfl rfl ?_
        refine Z_callV0 (M' := mX8_records) (pc' := 37) (st := []) [] dX8_setWord_34 rfl vX8_records lX8_68 (Or.inl dd_54) rfl (Nat.le_of_ble_eq_true rfl) (Nat.le_refl 0) (Nat.le_refl 0) ?_
        refine Cl_mono P ?_
        rintro _ μ13 ⟨rfl, P⟩
        show Z SS none mX8_setWord (d + 1) 0 0 (qI Q) 37 [some (.ref 54), some (vi x1), some (vi x2), some (vi x3), some (vi x4), none] [] μ13 0 0
        refine Z_aload_n (pc' := 38) dX8_setWord_37 rfl rfl ?_
        refine Z_iload_n (pc' := 39) dX8_setWord_38 rfl rfl ?_
        refine Z_iconst (pc' := 40) dX8_setWord_39 rfl ?_
        refine Z_callV0 (M' := mX8_of) (pc' := 43) (st := []) [vi x1, vi 0] dX8_setWord_40 rfl vX8_of lX8_93 (Or.inl dd_54) rfl (Nat.le_of_ble_eq_true rfl) (Nat.le_refl 0) (Nat.le_refl 0) ?_
        refine Cl_mono P ?_
        rintro _ μ14 ⟨r15, rfl, P⟩
        show Z SS none mX8_setWord (d + 1) 0 0 (qI Q) 43 [some (.ref 54), some (vi x1), some (vi x2), some (vi x3), some (vi x4), none] [vi r15] μ14 0 0
        refine Z_istore (pc' := 45) (lo' := [some (.ref 54), some (vi x1), some (vi x2), some (vi x3), some (vi x4), some (vi r15)]) dX8_setWord_43 rfl (by decide) rfl ?_
        refine Z_aload_n (pc' := 46) dX8_setWord_45 rfl rfl ?_
        refine Z_iload_n (pc' := 47) dX8_setWord_46 rfl rfl ?_
        refine Z_iload_n (pc' := 48) dX8_setWord_47 rfl rfl ?_
        refine Z_iload_n (pc' := 49) dX8_setWord_48 rfl rfl ?_
        refine Z_iload (pc' := 51) dX8_setWord_49 rfl rfl ?_
        have K : ∀ t18 : Int, t18 = (if x4 = 0 then 0 else 1) → Z SS none mX8_setWord (d + 1) 0 0 (qI Q) 59 [some (.ref 54), some (vi x1), some (vi x2), some (vi x3), some (vi x4), some (vi r15)] [vi t18, vi x3, vi x2, vi x1, .ref 54] μ14 0 0 := by
          rintro _ rfl
          have P := P.2
          refine Z_callV0 (M' := mX8_becomes) (pc' := 62) (st := []) [vi x1, vi x2, vi x3, vi (if x4 = 0 then 0 else 1)] dX8_setWord_59 rfl vX8_becomes lX8_86 (Or.inl dd_54) rfl (Nat.le_of_ble_eq_true rfl) (Nat.le_refl 0) (Nat.le_refl 0) ?_
          refine Cl_mono P ?_
          rintro _ μ19 ⟨rfl, P⟩
          show Z SS none mX8_setWord (d + 1) 0 0 (qI Q) 62 [some (.ref 54), some (vi x1), some (vi x2), some (vi x3), some (vi x4), some (vi r15)] [] μ19 0 0
          refine Z_iload (pc' := 64) dX8_setWord_62 rfl rfl ?_
          exact Z_ireturn dX8_setWord_64 rfl (Nat.le_refl 0) (Nat.le_refl 0) P
        have G := P.1
        have h16 := G
        refine Z_if_eq (tgt := 58) (pc' := 54) dX8_setWord_51 (by decide) rfl h16 (fun c17 => ?_) (fun c17 => ?_)
        · refine Z_iconst (pc' := 59) dX8_setWord_58 rfl ?_
          exact K _ (by rw [if_pos c17])
        · refine Z_iconst (pc' := 55) dX8_setWord_54 rfl ?_
          refine Z_goto (tgt := 59) dX8_setWord_55 (by decide) ?_
          exact K _ (by rw [if_neg c17])
      · have P := P.1 c12
        refine Z_bipush (pc' := 32) dX8_setWord_30 rfl rfl ?_
        exact Z_ireturn dX8_setWord_32 rfl (Nat.le_refl 0) (Nat.le_refl 0) P
  · have P := P.1 c4
    refine Z_bipush (pc' := 10) dX8_setWord_8 rfl rfl ?_
    exact Z_ireturn dX8_setWord_10 rfl (Nat.le_refl 0) (Nat.le_refl 0) P
