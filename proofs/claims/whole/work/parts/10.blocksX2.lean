abbrev zX4_prepare_55 (d : Nat) (Q : Int → zMem → Prop) (x5 : Int) (μ : zMem) : Prop := Z SS none mX4_prepare (d + 1) 0 0 (qI Q) 55 [some (.ref 11), some (.ref 1), none, none, none, some (vi x5)] [] μ 0 0
theorem bX4_prepare {d : Nat} {Q : Int → zMem → Prop} {μ : zMem} {x2 : Int} {x3 : Int} {x4 : Int} (P : kX3_measure d x2 x3 μ (fun (r2 : Int) (μ1 : zMem) => (zIn r2) ∧ ((r2 = 0 → (Q 0 μ1)) ∧ (¬ (r2 = 0) → (zX4_prepare_55 d Q 0 (sI (sI (sI (sI μ1 11 2 (gI μ1 6 4)) 11 3 (gI (sI μ1 11 2 (gI μ1 6 4)) 6 5)) 11 4 (gI (sI (sI μ1 11 2 (gI μ1 6 4)) 11 3 (gI (sI μ1 11 2 (gI μ1 6 4)) 6 5)) 6 6)) 11 5 x4)))))) : kX4_prepare (d + 1) x2 x3 x4 μ Q := by
  refine Cl_of rfl (Nat.le_of_ble_eq_true rfl) rfl ?_
  show Z SS none mX4_prepare (d + 1) 0 0 (qI Q) 0 [some (.ref 11), some (.ref 1), some (vi x2), some (vi x3), some (vi x4), none] [] μ 0 0
  refine Z_aload_n (pc' := 1) dX4_prepare_0 rfl rfl ?_
  refine Z_getR (q := 16) (pc' := 4) dX4_prepare_1 rfl fX4_21 rfl (Or.inl dd_11) (Or.inl rr_11_1) ?_
  refine Z_aload_n (pc' := 5) dX4_prepare_4 rfl rfl ?_
  refine Z_iload_n (pc' := 6) dX4_prepare_5 rfl rfl ?_
  refine Z_iload_n (pc' := 7) dX4_prepare_6 rfl rfl ?_
  refine Z_callV0 (M' := mX3_measure) (pc' := 10) (st := []) [.ref 1, vi x2, vi x3] dX4_prepare_7 rfl vX3_measure lX4_70 (Or.inl dd_16) rfl (Nat.le_of_ble_eq_true rfl) (Nat.le_refl 0) (Nat.le_refl 0) ?_
  refine Cl_mono P ?_
  rintro _ μ1 ⟨r2, rfl, P⟩
  show Z SS none mX4_prepare (d + 1) 0 0 (qI Q) 10 [some (.ref 11), some (.ref 1), some (vi x2), some (vi x3), some (vi x4), none] [vi r2] μ1 0 0
  have h3 := P.1
  have P := P.2
  refine Z_if_ne (tgt := 15) (pc' := 13) dX4_prepare_10 (by decide) rfl h3 (fun c4 => ?_) (fun c4 => ?_)
  · have P := P.2 c4
    refine Z_aload_n (pc' := 16) dX4_prepare_15 rfl rfl ?_
    refine Z_aload_n (pc' := 17) dX4_prepare_16 rfl rfl ?_
    refine Z_getR (q := 6) (pc' := 20) dX4_prepare_17 rfl fX4_59 rfl (Or.inl dd_1) (Or.inl rr_1_3) ?_
    refine Z_iconst (pc' := 21) dX4_prepare_20 rfl ?_
    refine Z_iaload (pc' := 22) dX4_prepare_21 rfl (Or.inl dd_6) (Nat.le_of_ble_eq_true rfl) (by decide) (by decide) ?_
    refine Z_putI' (ji := 2) (pc' := 25) dX4_prepare_22 rfl rfl fX4_74 (Or.inl rfl) rfl (Or.inl dd_11) ?_
    refine Z_aload_n (pc' := 26) dX4_prepare_25 rfl rfl ?_
    refine Z_aload_n (pc' := 27) dX4_prepare_26 rfl rfl ?_
    refine Z_getR (q := 6) (pc' := 30) dX4_prepare_27 rfl fX4_59 rfl (Or.inl dd_1) (Or.inl rr_1_3) ?_
    refine Z_iconst (pc' := 31) dX4_prepare_30 rfl ?_
    refine Z_iaload (pc' := 32) dX4_prepare_31 rfl (Or.inl dd_6) (Nat.le_of_ble_eq_true rfl) (by decide) (by decide) ?_
    refine Z_putI' (ji := 3) (pc' := 35) dX4_prepare_32 rfl rfl fX4_77 (Or.inl rfl) rfl (Or.inl dd_11) ?_
    refine Z_aload_n (pc' := 36) dX4_prepare_35 rfl rfl ?_
    refine Z_aload_n (pc' := 37) dX4_prepare_36 rfl rfl ?_
    refine Z_getR (q := 6) (pc' := 40) dX4_prepare_37 rfl fX4_59 rfl (Or.inl dd_1) (Or.inl rr_1_3) ?_
    refine Z_bipush (pc' := 42) dX4_prepare_40 rfl rfl ?_
    refine Z_iaload (pc' := 43) dX4_prepare_42 rfl (Or.inl dd_6) (Nat.le_of_ble_eq_true rfl) (by decide) (by decide) ?_
    refine Z_putI' (ji := 4) (pc' := 46) dX4_prepare_43 rfl rfl fX4_80 (Or.inl rfl) rfl (Or.inl dd_11) ?_
    refine Z_aload_n (pc' := 47) dX4_prepare_46 rfl rfl ?_
    refine Z_iload (pc' := 49) dX4_prepare_47 rfl rfl ?_
    refine Z_putI' (ji := 5) (pc' := 52) dX4_prepare_49 rfl rfl fX4_83 (Or.inl rfl) rfl (Or.inl dd_11) ?_
    refine Z_iconst (pc' := 53) dX4_prepare_52 rfl ?_
    refine Z_istore (pc' := 55) (lo' := [some (.ref 11), some (.ref 1), some (vi x2), some (vi x3), some (vi x4), some (vi 0)]) dX4_prepare_53 rfl (by decide) rfl ?_
    refine Z_wk [true, true, false, false, false, true] rfl ?_
    exact P
  · have P := P.1 c4
    refine Z_iconst (pc' := 14) dX4_prepare_13 rfl ?_
    exact Z_zreturn dX4_prepare_14 rfl (Or.inl rfl) (Nat.le_refl 0) (Nat.le_refl 0) P
theorem bX4_prepare_55 {d : Nat} {Q : Int → zMem → Prop} {μ : zMem} {x5 : Int} (P : (zIn x5) ∧ ((zIn (gI μ 16 0)) ∧ (((gI μ 16 0) ≤ x5 → (kX4_findLeastCosts d μ (fun μ4 : zMem => Q 1 μ4))) ∧ (¬ ((gI μ 16 0) ≤ x5) → ((0 ≤ x5) ∧ ((x5 < 14) ∧ (kX0_learn d (gI μ 17 x5) μ (fun μ7 : zMem => zX4_prepare_55 d Q (x5 + 1) μ7)))))))) : zX4_prepare_55 d Q x5 μ := by
  refine Z_iload (pc' := 57) dX4_prepare_55 rfl rfl ?_
  refine Z_aload_n (pc' := 58) dX4_prepare_57 rfl rfl ?_
  refine Z_getR (q := 16) (pc' := 61) dX4_prepare_58 rfl fX4_21 rfl (Or.inl dd_11) (Or.inl rr_11_1) ?_
  refine Z_getI' (ji := 0) (pc' := 64) dX4_prepare_61 rfl rfl fX4_86 rfl (Or.inl dd_16) ?_
  have h1 := P.1
  have P := P.2
  have h2 := P.1
  have P := P.2
  refine Z_icmp_ge (tgt := 94) (pc' := 67) dX4_prepare_64 (by decide) rfl h1 h2 (fun c3 => ?_) (fun c3 => ?_)
  · have P := P.1 c3
    refine Z_aload_n (pc' := 95) dX4_prepare_94 rfl rfl ?_
    refine Z_callV0 (M' := mX4_findLeastCosts) (pc' := 98) (st := []) [] dX4_prepare_95 rfl vX4_findLeastCosts lX4_100 (Or.inl dd_11) rfl (Nat.le_of_ble_eq_true rfl) (Nat.le_refl 0) (Nat.le_refl 0) ?_
    refine Cl_mono P ?_
    rintro _ μ4 ⟨rfl, P⟩
    show Z SS none mX4_prepare (d + 1) 0 0 (qI Q) 98 [some (.ref 11), some (.ref 1), none, none, none, some (vi x5)] [] μ4 0 0
    refine Z_iconst (pc' := 99) dX4_prepare_98 rfl ?_
    exact Z_zreturn dX4_prepare_99 rfl (Or.inr rfl) (Nat.le_refl 0) (Nat.le_refl 0) P
  · have P := P.2 c3
    refine Z_aload_n (pc' := 68) dX4_prepare_67 rfl rfl ?_
    refine Z_getR (q := 12) (pc' := 71) dX4_prepare_68 rfl fX4_12 rfl (Or.inl dd_11) (Or.inl rr_11_0) ?_
    refine Z_aload_n (pc' := 72) dX4_prepare_71 rfl rfl ?_
    refine Z_getR (q := 2) (pc' := 75) dX4_prepare_72 rfl fX4_89 rfl (Or.inl dd_1) (Or.inl rr_1_0) ?_
    refine Z_aload_n (pc' := 76) dX4_prepare_75 rfl rfl ?_
    refine Z_getR (q := 16) (pc' := 79) dX4_prepare_76 rfl fX4_21 rfl (Or.inl dd_11) (Or.inl rr_11_1) ?_
    refine Z_getR (q := 17) (pc' := 82) dX4_prepare_79 rfl fX4_93 rfl (Or.inl dd_16) (Or.inl rr_16_1) ?_
    refine Z_iload (pc' := 84) dX4_prepare_82 rfl rfl ?_
    have h5 := P.1
    have P := P.2
    have h6 := P.1
    have P := P.2
    refine Z_iaload (pc' := 85) dX4_prepare_84 rfl (Or.inl dd_17) (Nat.le_of_ble_eq_true rfl) h5 h6 ?_
    refine Z_callV0 (M' := mX0_learn) (pc' := 88) (st := []) [.ref 2, vi (gI μ 17 x5)] dX4_prepare_85 rfl vX0_learn lX4_96 (Or.inl dd_12) rfl (Nat.le_of_ble_eq_true rfl) (Nat.le_refl 0) (Nat.le_refl 0) ?_
    refine Cl_mono P ?_
    rintro _ μ7 ⟨rfl, P⟩
    show Z SS none mX4_prepare (d + 1) 0 0 (qI Q) 88 [some (.ref 11), some (.ref 1), none, none, none, some (vi x5)] [] μ7 0 0
    refine Z_iinc (pc' := 91) (lo' := [some (.ref 11), some (.ref 1), none, none, none, some (vi (x5 + 1))]) dX4_prepare_88 rfl (by decide) rfl rfl ?_
    refine Z_goto (tgt := 55) dX4_prepare_91 (by decide) ?_
    exact P
theorem bX4_keep {d : Nat} {Q : zMem → Prop} {μ : zMem} {x1 : Int} {x2 : Int} (P : (zIn (gI (sI μ 11 12 ((gI μ 11 12) + 1)) 11 14)) ∧ (((gI (sI μ 11 12 ((gI μ 11 12) + 1)) 11 14) = 0 → (Q (sI μ 11 12 ((gI μ 11 12) + 1)))) ∧ (¬ ((gI (sI μ 11 12 ((gI μ 11 12) + 1)) 11 14) = 0) → ((0 ≤ ((15 : Nat) : Int)) ∧ ((0 + ((15 : Nat) : Int) ≤ 15) ∧ (Q (cI (sI (sI (sI μ 11 12 ((gI μ 11 12) + 1)) 11 17 x2) 11 16 x1) 24 0 29 0 ((15 : Nat) : Int)))))))) : kX4_keep (d + 1) x1 x2 μ Q := by
  refine Cl_of rfl (Nat.le_of_ble_eq_true rfl) rfl ?_
  show Z SS none mX4_keep (d + 1) 0 0 (qV Q) 0 [some (.ref 11), some (vi x1), some (vi x2)] [] μ 0 0
  refine Z_aload_n (pc' := 1) dX4_keep_0 rfl rfl ?_
  refine Z_dup (pc' := 2) dX4_keep_1 rfl rfl ?_
  refine Z_getI' (ji := 12) (pc' := 5) dX4_keep_2 rfl rfl fX4_55 rfl (Or.inl dd_11) ?_
  refine Z_iconst (pc' := 6) dX4_keep_5 rfl ?_
  refine Z_iadd (pc' := 7) dX4_keep_6 rfl ?_
  refine Z_putI' (ji := 12) (pc' := 10) dX4_keep_7 rfl rfl fX4_55 (Or.inl rfl) rfl (Or.inl dd_11) ?_
  refine Z_aload_n (pc' := 11) dX4_keep_10 rfl rfl ?_
  refine Z_getB' (ji := 14) (pc' := 14) dX4_keep_11 rfl rfl fX4_106 rfl (Or.inl dd_11) ?_
  have h1 := P.1
  have P := P.2
  refine Z_if_eq (tgt := 45) (pc' := 17) dX4_keep_14 (by decide) rfl h1 (fun c2 => ?_) (fun c2 => ?_)
  · have P := P.1 c2
    exact Z_return dX4_keep_45 rfl (Nat.le_refl 0) (Nat.le_refl 0) P
  · have P := P.2 c2
    refine Z_aload_n (pc' := 18) dX4_keep_17 rfl rfl ?_
    refine Z_iload_n (pc' := 19) dX4_keep_18 rfl rfl ?_
    refine Z_putI' (ji := 17) (pc' := 22) dX4_keep_19 rfl rfl fX4_67 (Or.inl rfl) rfl (Or.inl dd_11) ?_
    refine Z_aload_n (pc' := 23) dX4_keep_22 rfl rfl ?_
    refine Z_iload_n (pc' := 24) dX4_keep_23 rfl rfl ?_
    refine Z_putI' (ji := 16) (pc' := 27) dX4_keep_24 rfl rfl fX4_155 (Or.inl rfl) rfl (Or.inl dd_11) ?_
    refine Z_aload_n (pc' := 28) dX4_keep_27 rfl rfl ?_
    refine Z_getR (q := 24) (pc' := 31) dX4_keep_28 rfl fX4_29 rfl (Or.inl dd_11) (Or.inl rr_11_7) ?_
    refine Z_iconst (pc' := 32) dX4_keep_31 rfl ?_
    refine Z_aload_n (pc' := 33) dX4_keep_32 rfl rfl ?_
    refine Z_getR (q := 29) (pc' := 36) dX4_keep_33 rfl fX4_44 rfl (Or.inl dd_11) (Or.inl rr_11_15) ?_
    refine Z_iconst (pc' := 37) dX4_keep_36 rfl ?_
    refine Z_aload_n (pc' := 38) dX4_keep_37 rfl rfl ?_
    refine Z_getR (q := 24) (pc' := 41) dX4_keep_38 rfl fX4_29 rfl (Or.inl dd_11) (Or.inl rr_11_7) ?_
    refine Z_alen (pc' := 42) dX4_keep_41 rfl (Or.inl dd_24) (Or.inl rfl) ?_
    have h3 := P.1
    have P := P.2
    have h4 := P.1
    have P := P.2
    refine Z_copyI (pc' := 45) dX4_keep_42 rfl lX4_158 (Or.inl dd_24) (Or.inl dd_29) (Nat.le_of_ble_eq_true rfl) (Nat.le_of_ble_eq_true rfl) (by decide) (by decide) h3 h4 h4 (Nat.le_of_ble_eq_true rfl) ?_
    exact Z_return dX4_keep_45 rfl (Nat.le_refl 0) (Nat.le_refl 0) P
abbrev zX4_placeWords_61 (d : Nat) (Q : zMem → Prop) (x2 : Int) (x6 : Int) (μ : zMem) : Prop := Z SS none mX4_placeWords (d + 1) 0 0 (qV Q) 61 [some (.ref 11), none, some (vi x2), none, none, none, some (vi x6)] [] μ 0 0
theorem bX4_placeWords {d : Nat} {Q : zMem → Prop} {μ : zMem} {x1 : Int} {x2 : Int} {x3 : Int} {x4 : Int} (P : ((zIn (gI μ 11 4)) ∧ (((gI μ 11 4) = 0 → True) ∧ (¬ ((gI μ 11 4) = 0) → (((gI μ 11 4) = 1 → (zIn x4)) ∧ (¬ ((gI μ 11 4) = 1) → True))))) ∧ (kX3_heightOf d x1 x2 μ (fun (r7 : Int) (μ6 : zMem) => kX0_firstOf d x3 r7 μ6 (fun (r9 : Int) (μ8 : zMem) => (0 ≤ x1) ∧ ((x1 < 14) ∧ (zX4_placeWords_61 d Q x2 (x1 + 1) (sI μ8 25 x1 (r9 + (if (gI μ 11 4) = 0 then 0 else (if (gI μ 11 4) = 1 then (x4.tdiv 2) else x4)))))))))) : kX4_placeWords (d + 1) x1 x2 x3 x4 μ Q := by
  refine Cl_of rfl (Nat.le_of_ble_eq_true rfl) rfl ?_
  show Z SS none mX4_placeWords (d + 1) 0 0 (qV Q) 0 [some (.ref 11), some (vi x1), some (vi x2), some (vi x3), some (vi x4), none, none] [] μ 0 0
  refine Z_aload_n (pc' := 1) dX4_placeWords_0 rfl rfl ?_
  refine Z_getI' (ji := 4) (pc' := 4) dX4_placeWords_1 rfl rfl fX4_80 rfl (Or.inl dd_11) ?_
  have K : ∀ t5 : Int, t5 = (if (gI μ 11 4) = 0 then 0 else (if (gI μ 11 4) = 1 then (x4.tdiv 2) else x4)) → Z SS none mX4_placeWords (d + 1) 0 0 (qV Q) 28 [some (.ref 11), some (vi x1), some (vi x2), some (vi x3), some (vi x4), none, none] [vi t5] μ 0 0 := by
    rintro _ rfl
    have P := P.2
    refine Z_istore (pc' := 30) (lo' := [some (.ref 11), some (vi x1), some (vi x2), some (vi x3), some (vi x4), some (vi (if (gI μ 11 4) = 0 then 0 else (if (gI μ 11 4) = 1 then (x4.tdiv 2) else x4))), none]) dX4_placeWords_28 rfl (by decide) rfl ?_
    refine Z_aload_n (pc' := 31) dX4_placeWords_30 rfl rfl ?_
    refine Z_getR (q := 25) (pc' := 34) dX4_placeWords_31 rfl fX4_32 rfl (Or.inl dd_11) (Or.inl rr_11_8) ?_
    refine Z_iload_n (pc' := 35) dX4_placeWords_34 rfl rfl ?_
    refine Z_aload_n (pc' := 36) dX4_placeWords_35 rfl rfl ?_
    refine Z_getR (q := 12) (pc' := 39) dX4_placeWords_36 rfl fX4_12 rfl (Or.inl dd_11) (Or.inl rr_11_0) ?_
    refine Z_iload_n (pc' := 40) dX4_placeWords_39 rfl rfl ?_
    refine Z_aload_n (pc' := 41) dX4_placeWords_40 rfl rfl ?_
    refine Z_getR (q := 16) (pc' := 44) dX4_placeWords_41 rfl fX4_21 rfl (Or.inl dd_11) (Or.inl rr_11_1) ?_
    refine Z_iload_n (pc' := 45) dX4_placeWords_44 rfl rfl ?_
    refine Z_iload_n (pc' := 46) dX4_placeWords_45 rfl rfl ?_
    refine Z_callV0 (M' := mX3_heightOf) (pc' := 49) (st := [vi x3, .ref 12, vi x1, .ref 25]) [vi x1, vi x2] dX4_placeWords_46 rfl vX3_heightOf lX4_131 (Or.inl dd_16) rfl (Nat.le_of_ble_eq_true rfl) (Nat.le_refl 0) (Nat.le_refl 0) ?_
    refine Cl_mono P ?_
    rintro _ μ6 ⟨r7, rfl, P⟩
    show Z SS none mX4_placeWords (d + 1) 0 0 (qV Q) 49 [some (.ref 11), some (vi x1), some (vi x2), some (vi x3), some (vi x4), some (vi (if (gI μ 11 4) = 0 then 0 else (if (gI μ 11 4) = 1 then (x4.tdiv 2) else x4))), none] [vi r7, vi x3, .ref 12, vi x1, .ref 25] μ6 0 0
    refine Z_callV0 (M' := mX0_firstOf) (pc' := 52) (st := [vi x1, .ref 25]) [vi x3, vi r7] dX4_placeWords_49 rfl vX0_firstOf lX4_164 (Or.inl dd_12) rfl (Nat.le_of_ble_eq_true rfl) (Nat.le_refl 0) (Nat.le_refl 0) ?_
    refine Cl_mono P ?_
    rintro _ μ8 ⟨r9, rfl, P⟩
    show Z SS none mX4_placeWords (d + 1) 0 0 (qV Q) 52 [some (.ref 11), some (vi x1), some (vi x2), some (vi x3), some (vi x4), some (vi (if (gI μ 11 4) = 0 then 0 else (if (gI μ 11 4) = 1 then (x4.tdiv 2) else x4))), none] [vi r9, vi x1, .ref 25] μ8 0 0
    refine Z_iload (pc' := 54) dX4_placeWords_52 rfl rfl ?_
    refine Z_iadd (pc' := 55) dX4_placeWords_54 rfl ?_
    have h10 := P.1
    have P := P.2
    have h11 := P.1
    have P := P.2
    refine Z_iastore (pc' := 56) dX4_placeWords_55 rfl (Or.inl dd_25) (Nat.le_of_ble_eq_true rfl) h10 h11 ?_
    refine Z_iload_n (pc' := 57) dX4_placeWords_56 rfl rfl ?_
    refine Z_iconst (pc' := 58) dX4_placeWords_57 rfl ?_
    refine Z_iadd (pc' := 59) dX4_placeWords_58 rfl ?_
    refine Z_istore (pc' := 61) (lo' := [some (.ref 11), some (vi x1), some (vi x2), some (vi x3), some (vi x4), some (vi (if (gI μ 11 4) = 0 then 0 else (if (gI μ 11 4) = 1 then (x4.tdiv 2) else x4))), some (vi (x1 + 1))]) dX4_placeWords_59 rfl (by decide) rfl ?_
    refine Z_wk [true, false, true, false, false, false, true] rfl ?_
    exact P
  have G := P.1
  have h1 := G.1
  have G := G.2
  refine Z_if_ne (tgt := 11) (pc' := 7) dX4_placeWords_4 (by decide) rfl h1 (fun c2 => ?_) (fun c2 => ?_)
  · have G := G.2 c2
    refine Z_aload_n (pc' := 12) dX4_placeWords_11 rfl rfl ?_
    refine Z_getI' (ji := 4) (pc' := 15) dX4_placeWords_12 rfl rfl fX4_80 rfl (Or.inl dd_11) ?_
    refine Z_iconst (pc' := 16) dX4_placeWords_15 rfl ?_
    refine Z_icmp_ne (tgt := 26) (pc' := 19) dX4_placeWords_16 (by decide) rfl h1 (z_lit rfl) (fun c3 => ?_) (fun c3 => ?_)
    · refine Z_iload (pc' := 28) dX4_placeWords_26 rfl rfl ?_
      refine Z_wk [true, true, true, true, true, false, false] rfl ?_
      exact K _ (by rw [if_neg c2, if_neg c3])
    · have G := G.1 c3
      refine Z_iload (pc' := 21) dX4_placeWords_19 rfl rfl ?_
      refine Z_iconst (pc' := 22) dX4_placeWords_21 rfl ?_
      have h4 := G
      refine Z_idiv (pc' := 23) dX4_placeWords_22 rfl h4 (z_lit rfl) (by decide) ?_
      refine Z_goto (tgt := 28) dX4_placeWords_23 (by decide) ?_
      refine Z_wk [true, true, true, true, true, false, false] rfl ?_
      exact K _ (by rw [if_neg c2, if_pos c3])
  · refine Z_iconst (pc' := 8) dX4_placeWords_7 rfl ?_
    refine Z_goto (tgt := 28) dX4_placeWords_8 (by decide) ?_
    refine Z_wk [true, true, true, true, true, false, false] rfl ?_
    exact K _ (by rw [if_pos c2])
theorem bX4_placeWords_61 {d : Nat} {Q : zMem → Prop} {μ : zMem} {x2 : Int} {x6 : Int} (P : (zIn x6) ∧ ((zIn x2) ∧ ((x2 ≤ x6 → (Q μ)) ∧ (¬ (x2 ≤ x6) → ((0 ≤ (x6 - 1)) ∧ (((x6 - 1) < 14) ∧ ((0 ≤ x6) ∧ ((x6 < 14) ∧ (zX4_placeWords_61 d Q x2 (x6 + 1) (sI (sI μ 26 x6 ((gI μ 25 (x6 - 1)) + (gI μ 18 (x6 - 1)))) 25 x6 ((gI (sI μ 26 x6 ((gI μ 25 (x6 - 1)) + (gI μ 18 (x6 - 1)))) 26 x6) + (gI (sI μ 26 x6 ((gI μ 25 (x6 - 1)) + (gI μ 18 (x6 - 1)))) 19 x6)))))))))))) : zX4_placeWords_61 d Q x2 x6 μ := by
  refine Z_iload (pc' := 63) dX4_placeWords_61 rfl rfl ?_
  refine Z_iload_n (pc' := 64) dX4_placeWords_63 rfl rfl ?_
  have h1 := P.1
  have P := P.2
  have h2 := P.1
  have P := P.2
  refine Z_icmp_ge (tgt := 127) (pc' := 67) dX4_placeWords_64 (by decide) rfl h1 h2 (fun c3 => ?_) (fun c3 => ?_)
  · have P := P.1 c3
    exact Z_return dX4_placeWords_127 rfl (Nat.le_refl 0) (Nat.le_refl 0) P
  · have P := P.2 c3
    refine Z_aload_n (pc' := 68) dX4_placeWords_67 rfl rfl ?_
    refine Z_getR (q := 26) (pc' := 71) dX4_placeWords_68 rfl fX4_35 rfl (Or.inl dd_11) (Or.inl rr_11_9) ?_
    refine Z_iload (pc' := 73) dX4_placeWords_71 rfl rfl ?_
    refine Z_aload_n (pc' := 74) dX4_placeWords_73 rfl rfl ?_
    refine Z_getR (q := 25) (pc' := 77) dX4_placeWords_74 rfl fX4_32 rfl (Or.inl dd_11) (Or.inl rr_11_8) ?_
    refine Z_iload (pc' := 79) dX4_placeWords_77 rfl rfl ?_
    refine Z_iconst (pc' := 80) dX4_placeWords_79 rfl ?_
    refine Z_isub (pc' := 81) dX4_placeWords_80 rfl ?_
    have h4 := P.1
    have P := P.2
    have h5 := P.1
    have P := P.2
    refine Z_iaload (pc' := 82) dX4_placeWords_81 rfl (Or.inl dd_25) (Nat.le_of_ble_eq_true rfl) h4 h5 ?_
    refine Z_aload_n (pc' := 83) dX4_placeWords_82 rfl rfl ?_
    refine Z_getR (q := 16) (pc' := 86) dX4_placeWords_83 rfl fX4_21 rfl (Or.inl dd_11) (Or.inl rr_11_1) ?_
    refine Z_getR (q := 18) (pc' := 89) dX4_placeWords_86 rfl fX4_167 rfl (Or.inl dd_16) (Or.inl rr_16_2) ?_
    refine Z_iload (pc' := 91) dX4_placeWords_89 rfl rfl ?_
    refine Z_iconst (pc' := 92) dX4_placeWords_91 rfl ?_
    refine Z_isub (pc' := 93) dX4_placeWords_92 rfl ?_
    refine Z_iaload (pc' := 94) dX4_placeWords_93 rfl (Or.inl dd_18) (Nat.le_of_ble_eq_true rfl) h4 h5 ?_
    refine Z_iadd (pc' := 95) dX4_placeWords_94 rfl ?_
    have h6 := P.1
    have P := P.2
    have h7 := P.1
    have P := P.2
    refine Z_iastore (pc' := 96) dX4_placeWords_95 rfl (Or.inl dd_26) (Nat.le_of_ble_eq_true rfl) h6 h7 ?_
    refine Z_aload_n (pc' := 97) dX4_placeWords_96 rfl rfl ?_
    refine Z_getR (q := 25) (pc' := 100) dX4_placeWords_97 rfl fX4_32 rfl (Or.inl dd_11) (Or.inl rr_11_8) ?_
    refine Z_iload (pc' := 102) dX4_placeWords_100 rfl rfl ?_
    refine Z_aload_n (pc' := 103) dX4_placeWords_102 rfl rfl ?_
    refine Z_getR (q := 26) (pc' := 106) dX4_placeWords_103 rfl fX4_35 rfl (Or.inl dd_11) (Or.inl rr_11_9) ?_
    refine Z_iload (pc' := 108) dX4_placeWords_106 rfl rfl ?_
    refine Z_iaload (pc' := 109) dX4_placeWords_108 rfl (Or.inl dd_26) (Nat.le_of_ble_eq_true rfl) h6 h7 ?_
    refine Z_aload_n (pc' := 110) dX4_placeWords_109 rfl rfl ?_
    refine Z_getR (q := 16) (pc' := 113) dX4_placeWords_110 rfl fX4_21 rfl (Or.inl dd_11) (Or.inl rr_11_1) ?_
    refine Z_getR (q := 19) (pc' := 116) dX4_placeWords_113 rfl fX4_170 rfl (Or.inl dd_16) (Or.inl rr_16_3) ?_
    refine Z_iload (pc' := 118) dX4_placeWords_116 rfl rfl ?_
    refine Z_iaload (pc' := 119) dX4_placeWords_118 rfl (Or.inl dd_19) (Nat.le_of_ble_eq_true rfl) h6 h7 ?_
    refine Z_iadd (pc' := 120) dX4_placeWords_119 rfl ?_
    refine Z_iastore (pc' := 121) dX4_placeWords_120 rfl (Or.inl dd_25) (Nat.le_of_ble_eq_true rfl) h6 h7 ?_
    refine Z_iinc (pc' := 124) (lo' := [some (.ref 11), none, some (vi x2), none, none, none, some (vi (x6 + 1))]) dX4_placeWords_121 rfl (by decide) rfl rfl ?_
    refine Z_goto (tgt := 61) dX4_placeWords_124 (by decide) ?_
    exact P
abbrev zX4_longestTouching_8 (d : Nat) (Q : Int → zMem → Prop) (x1 : Int) (x3 : Int) (p4 : Nat) (x5 : Int) (x6 : Int) (μ : zMem) : Prop := Z SS none mX4_longestTouching d 0 0 (qI Q) 8 [some (.ref 11), some (vi x1), none, some (vi x3), some (.ref p4), some (vi x5), some (vi x6)] [] μ 0 0
theorem bX4_longestTouching {d : Nat} {Q : Int → zMem → Prop} {μ : zMem} {x1 : Int} {x2 : Int} {x3 : Int} {p4 : Nat} {n4 : Nat} (hn4 : (gD μ)[p4]? = some (9, n4)) (hm4 : n4 ≤ 2147483647) (P : zX4_longestTouching_8 d Q x1 x3 p4 0 (x2 + 1) μ) : kX4_longestTouching d x1 x2 x3 p4 μ Q := by
  refine Cl_of rfl (Nat.le_of_ble_eq_true rfl) rfl ?_
  show Z SS none mX4_longestTouching d 0 0 (qI Q) 0 [some (.ref 11), some (vi x1), some (vi x2), some (vi x3), some (.ref p4), none, none] [] μ 0 0
  refine Z_iconst (pc' := 1) dX4_longestTouching_0 rfl ?_
  refine Z_istore (pc' := 3) (lo' := [some (.ref 11), some (vi x1), some (vi x2), some (vi x3), some (.ref p4), some (vi 0), none]) dX4_longestTouching_1 rfl (by decide) rfl ?_
  refine Z_iload_n (pc' := 4) dX4_longestTouching_3 rfl rfl ?_
  refine Z_iconst (pc' := 5) dX4_longestTouching_4 rfl ?_
  refine Z_iadd (pc' := 6) dX4_longestTouching_5 rfl ?_
  refine Z_istore (pc' := 8) (lo' := [some (.ref 11), some (vi x1), some (vi x2), some (vi x3), some (.ref p4), some (vi 0), some (vi (x2 + 1))]) dX4_longestTouching_6 rfl (by decide) rfl ?_
  refine Z_wk [true, true, false, true, true, true, true] rfl ?_
  exact P
theorem bX4_longestTouching_8 {d : Nat} {Q : Int → zMem → Prop} {μ : zMem} {x1 : Int} {x3 : Int} {p4 : Nat} {x5 : Int} {x6 : Int} {n4 : Nat} (hn4 : (gD μ)[p4]? = some (9, n4)) (hm4 : n4 ≤ 2147483647) (P : (zIn x6) ∧ ((zIn x3) ∧ ((x3 ≤ x6 → (Q x5 μ)) ∧ (¬ (x3 ≤ x6) → ((0 ≤ x6) ∧ ((x6 < 14) ∧ ((0 ≤ x1) ∧ ((x1 < 14) ∧ (((zIn (gI μ 26 x6)) ∧ ((zIn (gI μ 25 x1)) ∧ (((gI μ 25 x1) ≤ (gI μ 26 x6) → True) ∧ (¬ ((gI μ 25 x1) ≤ (gI μ 26 x6)) → ((zIn (gI μ 26 x1)) ∧ ((zIn (gI μ 25 x6)) ∧ (((gI μ 25 x6) ≤ (gI μ 26 x1) → True) ∧ (¬ ((gI μ 25 x6) ≤ (gI μ 26 x1)) → ((x6 < n4) ∧ ((zIn (gI μ p4 x6)) ∧ ((zIn x5)))))))))))) ∧ (zX4_longestTouching_8 d Q x1 x3 p4 (if (gI μ 25 x1) ≤ (gI μ 26 x6) then x5 else (if (gI μ 25 x6) ≤ (gI μ 26 x1) then x5 else (if (gI μ p4 x6) ≤ x5 then x5 else (gI μ p4 x6)))) (x6 + 1) μ)))))))))) : zX4_longestTouching_8 d Q x1 x3 p4 x5 x6 μ := by
  refine Z_iload (pc' := 10) dX4_longestTouching_8 rfl rfl ?_
  refine Z_iload_n (pc' := 11) dX4_longestTouching_10 rfl rfl ?_
  have h1 := P.1
  have P := P.2
  have h2 := P.1
  have P := P.2
  refine Z_icmp_ge (tgt := 69) (pc' := 14) dX4_longestTouching_11 (by decide) rfl h1 h2 (fun c3 => ?_) (fun c3 => ?_)
  · have P := P.1 c3
    refine Z_iload (pc' := 71) dX4_longestTouching_69 rfl rfl ?_
    exact Z_ireturn dX4_longestTouching_71 rfl (Nat.le_refl 0) (Nat.le_refl 0) P
  · have P := P.2 c3
    refine Z_aload_n (pc' := 15) dX4_longestTouching_14 rfl rfl ?_
    refine Z_getR (q := 26) (pc' := 18) dX4_longestTouching_15 rfl fX4_35 rfl (Or.inl dd_11) (Or.inl rr_11_9) ?_
    refine Z_iload (pc' := 20) dX4_longestTouching_18 rfl rfl ?_
    have h4 := P.1
    have P := P.2
    have h5 := P.1
    have P := P.2
    refine Z_iaload (pc' := 21) dX4_longestTouching_20 rfl (Or.inl dd_26) (Nat.le_of_ble_eq_true rfl) h4 h5 ?_
    refine Z_aload_n (pc' := 22) dX4_longestTouching_21 rfl rfl ?_
    refine Z_getR (q := 25) (pc' := 25) dX4_longestTouching_22 rfl fX4_32 rfl (Or.inl dd_11) (Or.inl rr_11_8) ?_
    refine Z_iload_n (pc' := 26) dX4_longestTouching_25 rfl rfl ?_
    have h6 := P.1
    have P := P.2
    have h7 := P.1
    have P := P.2
    refine Z_iaload (pc' := 27) dX4_longestTouching_26 rfl (Or.inl dd_25) (Nat.le_of_ble_eq_true rfl) h6 h7 ?_
    have K : ∀ t18 : Int, t18 = (if (gI μ 25 x1) ≤ (gI μ 26 x6) then x5 else (if (gI μ 25 x6) ≤ (gI μ 26 x1) then x5 else (if (gI μ p4 x6) ≤ x5 then x5 else (gI μ p4 x6)))) → Z SS none mX4_longestTouching d 0 0 (qI Q) 63 [some (.ref 11), some (vi x1), none, some (vi x3), some (.ref p4), some (vi t18), some (vi x6)] [] μ 0 0 := by
      rintro _ rfl
      have P := P.2
      refine Z_iinc (pc' := 66) (lo' := [some (.ref 11), some (vi x1), none, some (vi x3), some (.ref p4), some (vi (if (gI μ 25 x1) ≤ (gI μ 26 x6) then x5 else (if (gI μ 25 x6) ≤ (gI μ 26 x1) then x5 else (if (gI μ p4 x6) ≤ x5 then x5 else (gI μ p4 x6))))), some (vi (x6 + 1))]) dX4_longestTouching_63 rfl (by decide) rfl rfl ?_
      refine Z_goto (tgt := 8) dX4_longestTouching_66 (by decide) ?_
      exact P
    have G := P.1
    have h8 := G.1
    have G := G.2
    have h9 := G.1
    have G := G.2
    refine Z_icmp_ge (tgt := 63) (pc' := 30) dX4_longestTouching_27 (by decide) rfl h8 h9 (fun c10 => ?_) (fun c10 => ?_)
    · refine Z_wk [true, true, false, true, true, true, true] rfl ?_
      exact K _ (by rw [if_pos c10])
    · have G := G.2 c10
      refine Z_aload_n (pc' := 31) dX4_longestTouching_30 rfl rfl ?_
      refine Z_getR (q := 26) (pc' := 34) dX4_longestTouching_31 rfl fX4_35 rfl (Or.inl dd_11) (Or.inl rr_11_9) ?_
      refine Z_iload_n (pc' := 35) dX4_longestTouching_34 rfl rfl ?_
      refine Z_iaload (pc' := 36) dX4_longestTouching_35 rfl (Or.inl dd_26) (Nat.le_of_ble_eq_true rfl) h6 h7 ?_
      refine Z_aload_n (pc' := 37) dX4_longestTouching_36 rfl rfl ?_
      refine Z_getR (q := 25) (pc' := 40) dX4_longestTouching_37 rfl fX4_32 rfl (Or.inl dd_11) (Or.inl rr_11_8) ?_
      refine Z_iload (pc' := 42) dX4_longestTouching_40 rfl rfl ?_
      refine Z_iaload (pc' := 43) dX4_longestTouching_42 rfl (Or.inl dd_25) (Nat.le_of_ble_eq_true rfl) h4 h5 ?_
      have h11 := G.1
      have G := G.2
      have h12 := G.1
      have G := G.2
      refine Z_icmp_ge (tgt := 63) (pc' := 46) dX4_longestTouching_43 (by decide) rfl h11 h12 (fun c13 => ?_) (fun c13 => ?_)
      · refine Z_wk [true, true, false, true, true, true, true] rfl ?_
        exact K _ (by rw [if_neg c10, if_pos c13])
      · have G := G.2 c13
        refine Z_aload (pc' := 48) dX4_longestTouching_46 rfl rfl ?_
        refine Z_iload (pc' := 50) dX4_longestTouching_48 rfl rfl ?_
        have h14 := G.1
        have G := G.2
        refine Z_iaload (pc' := 51) dX4_longestTouching_50 rfl (Or.inr hn4) hm4 h4 h14 ?_
        refine Z_iload (pc' := 53) dX4_longestTouching_51 rfl rfl ?_
        have h15 := G.1
        have G := G.2
        have h16 := G
        refine Z_icmp_le (tgt := 63) (pc' := 56) dX4_longestTouching_53 (by decide) rfl h15 h16 (fun c17 => ?_) (fun c17 => ?_)
        · refine Z_wk [true, true, false, true, true, true, true] rfl ?_
          exact K _ (by rw [if_neg c10, if_neg c13, if_pos c17])
        · refine Z_aload (pc' := 58) dX4_longestTouching_56 rfl rfl ?_
          refine Z_iload (pc' := 60) dX4_longestTouching_58 rfl rfl ?_
          refine Z_iaload (pc' := 61) dX4_longestTouching_60 rfl (Or.inr hn4) hm4 h4 h14 ?_
          refine Z_istore (pc' := 63) (lo' := [some (.ref 11), some (vi x1), none, some (vi x3), some (.ref p4), some (vi (gI μ p4 x6)), some (vi x6)]) dX4_longestTouching_61 rfl (by decide) rfl ?_
          refine Z_wk [true, true, false, true, true, true, true] rfl ?_
          exact K _ (by rw [if_neg c10, if_neg c13, if_neg c17])
abbrev zX4_chainFromAbove_32 (d : Nat) (Q : Int → zMem → Prop) (x1 : Int) (x2 : Int) (x3 : Int) (x4 : Int) (x5 : Int) (μ : zMem) : Prop := Z SS none mX4_chainFromAbove (d + 1) 0 0 (qI Q) 32 [some (.ref 11), some (vi x1), some (vi x2), some (vi x3), some (vi x4), some (vi x5)] [] μ 0 0
theorem bX4_chainFromAbove {d : Nat} {Q : Int → zMem → Prop} {μ : zMem} {x1 : Int} (P : (0 ≤ x1) ∧ ((x1 < 15) ∧ (((zIn x1) ∧ ((x1 ≤ 0 → True) ∧ (¬ (x1 ≤ 0) → ((0 ≤ (x1 - 1)) ∧ (((x1 - 1) < 15)))))) ∧ (zX4_chainFromAbove_32 d Q x1 (gI μ 24 x1) (if x1 ≤ 0 then (gI μ 24 x1) else (gI μ 24 (x1 - 1))) 0 ((gI μ 24 x1) + 1) μ)))) : kX4_chainFromAbove (d + 1) x1 μ Q := by
  refine Cl_of rfl (Nat.le_of_ble_eq_true rfl) rfl ?_
  show Z SS none mX4_chainFromAbove (d + 1) 0 0 (qI Q) 0 [some (.ref 11), some (vi x1), none, none, none, none] [] μ 0 0
  refine Z_aload_n (pc' := 1) dX4_chainFromAbove_0 rfl rfl ?_
  refine Z_getR (q := 24) (pc' := 4) dX4_chainFromAbove_1 rfl fX4_29 rfl (Or.inl dd_11) (Or.inl rr_11_7) ?_
  refine Z_iload_n (pc' := 5) dX4_chainFromAbove_4 rfl rfl ?_
  have h1 := P.1
  have P := P.2
  have h2 := P.1
  have P := P.2
  refine Z_iaload (pc' := 6) dX4_chainFromAbove_5 rfl (Or.inl dd_24) (Nat.le_of_ble_eq_true rfl) h1 h2 ?_
  refine Z_istore_n (pc' := 7) (lo' := [some (.ref 11), some (vi x1), some (vi (gI μ 24 x1)), none, none, none]) dX4_chainFromAbove_6 rfl (by decide) rfl ?_
  refine Z_iload_n (pc' := 8) dX4_chainFromAbove_7 rfl rfl ?_
  have K : ∀ t7 : Int, t7 = (if x1 ≤ 0 then (gI μ 24 x1) else (gI μ 24 (x1 - 1))) → Z SS none mX4_chainFromAbove (d + 1) 0 0 (qI Q) 23 [some (.ref 11), some (vi x1), some (vi (gI μ 24 x1)), none, none, none] [vi t7] μ 0 0 := by
    rintro _ rfl
    have P := P.2
    refine Z_istore_n (pc' := 24) (lo' := [some (.ref 11), some (vi x1), some (vi (gI μ 24 x1)), some (vi (if x1 ≤ 0 then (gI μ 24 x1) else (gI μ 24 (x1 - 1)))), none, none]) dX4_chainFromAbove_23 rfl (by decide) rfl ?_
    refine Z_iconst (pc' := 25) dX4_chainFromAbove_24 rfl ?_
    refine Z_istore (pc' := 27) (lo' := [some (.ref 11), some (vi x1), some (vi (gI μ 24 x1)), some (vi (if x1 ≤ 0 then (gI μ 24 x1) else (gI μ 24 (x1 - 1)))), some (vi 0), none]) dX4_chainFromAbove_25 rfl (by decide) rfl ?_
    refine Z_iload_n (pc' := 28) dX4_chainFromAbove_27 rfl rfl ?_
    refine Z_iconst (pc' := 29) dX4_chainFromAbove_28 rfl ?_
    refine Z_iadd (pc' := 30) dX4_chainFromAbove_29 rfl ?_
    refine Z_istore (pc' := 32) (lo' := [some (.ref 11), some (vi x1), some (vi (gI μ 24 x1)), some (vi (if x1 ≤ 0 then (gI μ 24 x1) else (gI μ 24 (x1 - 1)))), some (vi 0), some (vi ((gI μ 24 x1) + 1))]) dX4_chainFromAbove_30 rfl (by decide) rfl ?_
    exact P
  have G := P.1
  have h3 := G.1
  have G := G.2
  refine Z_if_le (tgt := 22) (pc' := 11) dX4_chainFromAbove_8 (by decide) rfl h3 (fun c4 => ?_) (fun c4 => ?_)
  · refine Z_iload_n (pc' := 23) dX4_chainFromAbove_22 rfl rfl ?_
    refine Z_wk [true, true, true, false, false, false] rfl ?_
    exact K _ (by rw [if_pos c4])
  · have G := G.2 c4
    refine Z_aload_n (pc' := 12) dX4_chainFromAbove_11 rfl rfl ?_
    refine Z_getR (q := 24) (pc' := 15) dX4_chainFromAbove_12 rfl fX4_29 rfl (Or.inl dd_11) (Or.inl rr_11_7) ?_
    refine Z_iload_n (pc' := 16) dX4_chainFromAbove_15 rfl rfl ?_
    refine Z_iconst (pc' := 17) dX4_chainFromAbove_16 rfl ?_
    refine Z_isub (pc' := 18) dX4_chainFromAbove_17 rfl ?_
    have h5 := G.1
    have G := G.2
    have h6 := G
    refine Z_iaload (pc' := 19) dX4_chainFromAbove_18 rfl (Or.inl dd_24) (Nat.le_of_ble_eq_true rfl) h5 h6 ?_
    refine Z_goto (tgt := 23) dX4_chainFromAbove_19 (by decide) ?_
    refine Z_wk [true, true, true, false, false, false] rfl ?_
    exact K _ (by rw [if_neg c4])
theorem bX4_chainFromAbove_32 {d : Nat} {Q : Int → zMem → Prop} {μ : zMem} {x1 : Int} {x2 : Int} {x3 : Int} {x4 : Int} {x5 : Int} (P : (0 ≤ (x1 + 1)) ∧ (((x1 + 1) < 15) ∧ ((zIn x5) ∧ ((zIn (gI μ 24 (x1 + 1))) ∧ (((gI μ 24 (x1 + 1)) ≤ x5 → (Q x4 μ)) ∧ (¬ ((gI μ 24 (x1 + 1)) ≤ x5) → (kX4_longestTouching d x5 x3 x2 27 μ (fun (r7 : Int) (μ6 : zMem) => (0 ≤ x5) ∧ ((x5 < 14) ∧ ((zIn x4) ∧ ((zIn (gI (sI μ6 27 x5 (1 + r7)) 27 x5)) ∧ (zX4_chainFromAbove_32 d Q x1 x2 x3 (if x4 < (gI (sI μ6 27 x5 (1 + r7)) 27 x5) then (gI (sI μ6 27 x5 (1 + r7)) 27 x5) else x4) (x5 + 1) (sI μ6 27 x5 (1 + r7)))))))))))))) : zX4_chainFromAbove_32 d Q x1 x2 x3 x4 x5 μ := by
  refine Z_iload (pc' := 34) dX4_chainFromAbove_32 rfl rfl ?_
  refine Z_aload_n (pc' := 35) dX4_chainFromAbove_34 rfl rfl ?_
  refine Z_getR (q := 24) (pc' := 38) dX4_chainFromAbove_35 rfl fX4_29 rfl (Or.inl dd_11) (Or.inl rr_11_7) ?_
  refine Z_iload_n (pc' := 39) dX4_chainFromAbove_38 rfl rfl ?_
  refine Z_iconst (pc' := 40) dX4_chainFromAbove_39 rfl ?_
  refine Z_iadd (pc' := 41) dX4_chainFromAbove_40 rfl ?_
  have h1 := P.1
  have P := P.2
  have h2 := P.1
  have P := P.2
  refine Z_iaload (pc' := 42) dX4_chainFromAbove_41 rfl (Or.inl dd_24) (Nat.le_of_ble_eq_true rfl) h1 h2 ?_
  have h3 := P.1
  have P := P.2
  have h4 := P.1
  have P := P.2
  refine Z_icmp_ge (tgt := 86) (pc' := 45) dX4_chainFromAbove_42 (by decide) rfl h3 h4 (fun c5 => ?_) (fun c5 => ?_)
  · have P := P.1 c5
    refine Z_iload (pc' := 88) dX4_chainFromAbove_86 rfl rfl ?_
    exact Z_ireturn dX4_chainFromAbove_88 rfl (Nat.le_refl 0) (Nat.le_refl 0) P
  · have P := P.2 c5
    refine Z_aload_n (pc' := 46) dX4_chainFromAbove_45 rfl rfl ?_
    refine Z_getR (q := 27) (pc' := 49) dX4_chainFromAbove_46 rfl fX4_38 rfl (Or.inl dd_11) (Or.inl rr_11_10) ?_
    refine Z_iload (pc' := 51) dX4_chainFromAbove_49 rfl rfl ?_
    refine Z_iconst (pc' := 52) dX4_chainFromAbove_51 rfl ?_
    refine Z_aload_n (pc' := 53) dX4_chainFromAbove_52 rfl rfl ?_
    refine Z_iload (pc' := 55) dX4_chainFromAbove_53 rfl rfl ?_
    refine Z_iload_n (pc' := 56) dX4_chainFromAbove_55 rfl rfl ?_
    refine Z_iload_n (pc' := 57) dX4_chainFromAbove_56 rfl rfl ?_
    refine Z_aload_n (pc' := 58) dX4_chainFromAbove_57 rfl rfl ?_
    refine Z_getR (q := 27) (pc' := 61) dX4_chainFromAbove_58 rfl fX4_38 rfl (Or.inl dd_11) (Or.inl rr_11_10) ?_
    refine Z_callV0 (M' := mX4_longestTouching) (pc' := 64) (st := [vi 1, vi x5, .ref 27]) [vi x5, vi x3, vi x2, .ref 27] dX4_chainFromAbove_61 rfl vX4_longestTouching lX4_173 (Or.inl dd_11) rfl (Nat.le_of_ble_eq_true rfl) (Nat.le_refl 0) (Nat.le_refl 0) ?_
    refine Cl_mono P ?_
    rintro _ μ6 ⟨r7, rfl, P⟩
    show Z SS none mX4_chainFromAbove (d + 1) 0 0 (qI Q) 64 [some (.ref 11), some (vi x1), some (vi x2), some (vi x3), some (vi x4), some (vi x5)] [vi r7, vi 1, vi x5, .ref 27] μ6 0 0
    refine Z_iadd (pc' := 65) dX4_chainFromAbove_64 rfl ?_
    have h8 := P.1
    have P := P.2
    have h9 := P.1
    have P := P.2
    refine Z_iastore (pc' := 66) dX4_chainFromAbove_65 rfl (Or.inl dd_27) (Nat.le_of_ble_eq_true rfl) h8 h9 ?_
    refine Z_iload (pc' := 68) dX4_chainFromAbove_66 rfl rfl ?_
    refine Z_aload_n (pc' := 69) dX4_chainFromAbove_68 rfl rfl ?_
    refine Z_getR (q := 27) (pc' := 72) dX4_chainFromAbove_69 rfl fX4_38 rfl (Or.inl dd_11) (Or.inl rr_11_10) ?_
    refine Z_iload (pc' := 74) dX4_chainFromAbove_72 rfl rfl ?_
    refine Z_iaload (pc' := 75) dX4_chainFromAbove_74 rfl (Or.inl dd_27) (Nat.le_of_ble_eq_true rfl) h8 h9 ?_
    have h10 := P.1
    have P := P.2
    have h11 := P.1
    have P := P.2
    refine Z_max (pc' := 78) dX4_chainFromAbove_75 rfl lX4_177 h10 h11 (Nat.le_refl 0) (Nat.le_refl 0) (Nat.le_of_ble_eq_true rfl) ?_
    refine Z_istore (pc' := 80) (lo' := [some (.ref 11), some (vi x1), some (vi x2), some (vi x3), some (vi (if x4 < (gI (sI μ6 27 x5 (1 + r7)) 27 x5) then (gI (sI μ6 27 x5 (1 + r7)) 27 x5) else x4)), some (vi x5)]) dX4_chainFromAbove_78 rfl (by decide) rfl ?_
    refine Z_iinc (pc' := 83) (lo' := [some (.ref 11), some (vi x1), some (vi x2), some (vi x3), some (vi (if x4 < (gI (sI μ6 27 x5 (1 + r7)) 27 x5) then (gI (sI μ6 27 x5 (1 + r7)) 27 x5) else x4)), some (vi (x5 + 1))]) dX4_chainFromAbove_80 rfl (by decide) rfl rfl ?_
    refine Z_goto (tgt := 32) dX4_chainFromAbove_83 (by decide) ?_
    exact P
theorem bX4_tryLine {d : Nat} {Q : zMem → Prop} {μ : zMem} {x1 : Int} {x2 : Int} {x3 : Int} {x4 : Int} (P : (0 ≤ x1) ∧ ((x1 < 15) ∧ ((0 ≤ (x1 + 1)) ∧ (((x1 + 1) < 15) ∧ (kX4_rowBehind d (gI μ 24 x1) (gI μ 24 (x1 + 1)) x2 μ (fun (r6 : Int) (μ5 : zMem) => kX4_leastCostFrom d (gI μ 24 (x1 + 1)) r6 μ5 (fun (r8 : Int) (μ7 : zMem) => (zIn r8) ∧ ((r8 = (-1) → (Q μ7)) ∧ (¬ (r8 = (-1)) → ((zIn (gI μ7 11 14)) ∧ (((gI μ7 11 14) = 0 → (kX4_placeWords d (gI μ 24 x1) (gI μ 24 (x1 + 1)) x2 x3 μ7 (fun μ13 : zMem => kX4_chainFromAbove d x1 μ13 (fun (r15 : Int) (μ14 : zMem) => (zIn r15) ∧ ((zIn (gI μ14 11 5)) ∧ (((gI μ14 11 5) < r15 → (Q μ14)) ∧ (¬ ((gI μ14 11 5) < r15) → (kX4_layFrom d (x1 + 1) r6 x4 μ14 (fun μ19 : zMem => Q μ19))))))))) ∧ (¬ ((gI μ7 11 14) = 0) → ((zIn (gI μ7 11 12)) ∧ (((gI μ7 11 12) ≤ 0 → (kX4_placeWords d (gI μ 24 x1) (gI μ 24 (x1 + 1)) x2 x3 μ7 (fun μ22 : zMem => kX4_chainFromAbove d x1 μ22 (fun (r24 : Int) (μ23 : zMem) => (zIn r24) ∧ ((zIn (gI μ23 11 5)) ∧ (((gI μ23 11 5) < r24 → (Q μ23)) ∧ (¬ ((gI μ23 11 5) < r24) → (kX4_layFrom d (x1 + 1) r6 x4 μ23 (fun μ28 : zMem => Q μ28))))))))) ∧ (¬ ((gI μ7 11 12) ≤ 0) → ((zIn (x4 + r8)) ∧ ((zIn (gI μ7 11 17)) ∧ (((x4 + r8) < (gI μ7 11 17) → (kX4_placeWords d (gI μ 24 x1) (gI μ 24 (x1 + 1)) x2 x3 μ7 (fun μ32 : zMem => kX4_chainFromAbove d x1 μ32 (fun (r34 : Int) (μ33 : zMem) => (zIn r34) ∧ ((zIn (gI μ33 11 5)) ∧ (((gI μ33 11 5) < r34 → (Q μ33)) ∧ (¬ ((gI μ33 11 5) < r34) → (kX4_layFrom d (x1 + 1) r6 x4 μ33 (fun μ38 : zMem => Q μ38))))))))) ∧ (¬ ((x4 + r8) < (gI μ7 11 17)) → (Q μ7)))))))))))))))))))) : kX4_tryLine (d + 1) x1 x2 x3 x4 μ Q := by
  refine Cl_of rfl (Nat.le_of_ble_eq_true rfl) rfl ?_
  show Z SS none mX4_tryLine (d + 1) 0 0 (qV Q) 0 [some (.ref 11), some (vi x1), some (vi x2), some (vi x3), some (vi x4), none, none, none, none] [] μ 0 0
  refine Z_aload_n (pc' := 1) dX4_tryLine_0 rfl rfl ?_
  refine Z_getR (q := 24) (pc' := 4) dX4_tryLine_1 rfl fX4_29 rfl (Or.inl dd_11) (Or.inl rr_11_7) ?_
  refine Z_iload_n (pc' := 5) dX4_tryLine_4 rfl rfl ?_
  have h1 := P.1
  have P := P.2
  have h2 := P.1
  have P := P.2
  refine Z_iaload (pc' := 6) dX4_tryLine_5 rfl (Or.inl dd_24) (Nat.le_of_ble_eq_true rfl) h1 h2 ?_
  refine Z_istore (pc' := 8) (lo' := [some (.ref 11), some (vi x1), some (vi x2), some (vi x3), some (vi x4), some (vi (gI μ 24 x1)), none, none, none]) dX4_tryLine_6 rfl (by decide) rfl ?_
  refine Z_aload_n (pc' := 9) dX4_tryLine_8 rfl rfl ?_
  refine Z_getR (q := 24) (pc' := 12) dX4_tryLine_9 rfl fX4_29 rfl (Or.inl dd_11) (Or.inl rr_11_7) ?_
  refine Z_iload_n (pc' := 13) dX4_tryLine_12 rfl rfl ?_
  refine Z_iconst (pc' := 14) dX4_tryLine_13 rfl ?_
  refine Z_iadd (pc' := 15) dX4_tryLine_14 rfl ?_
  have h3 := P.1
  have P := P.2
  have h4 := P.1
  have P := P.2
  refine Z_iaload (pc' := 16) dX4_tryLine_15 rfl (Or.inl dd_24) (Nat.le_of_ble_eq_true rfl) h3 h4 ?_
  refine Z_istore (pc' := 18) (lo' := [some (.ref 11), some (vi x1), some (vi x2), some (vi x3), some (vi x4), some (vi (gI μ 24 x1)), some (vi (gI μ 24 (x1 + 1))), none, none]) dX4_tryLine_16 rfl (by decide) rfl ?_
  refine Z_aload_n (pc' := 19) dX4_tryLine_18 rfl rfl ?_
  refine Z_iload (pc' := 21) dX4_tryLine_19 rfl rfl ?_
  refine Z_iload (pc' := 23) dX4_tryLine_21 rfl rfl ?_
  refine Z_iload_n (pc' := 24) dX4_tryLine_23 rfl rfl ?_
  refine Z_callV0 (M' := mX4_rowBehind) (pc' := 27) (st := []) [vi (gI μ 24 x1), vi (gI μ 24 (x1 + 1)), vi x2] dX4_tryLine_24 rfl vX4_rowBehind lX4_128 (Or.inl dd_11) rfl (Nat.le_of_ble_eq_true rfl) (Nat.le_refl 0) (Nat.le_refl 0) ?_
  refine Cl_mono P ?_
  rintro _ μ5 ⟨r6, rfl, P⟩
  show Z SS none mX4_tryLine (d + 1) 0 0 (qV Q) 27 [some (.ref 11), some (vi x1), some (vi x2), some (vi x3), some (vi x4), some (vi (gI μ 24 x1)), some (vi (gI μ 24 (x1 + 1))), none, none] [vi r6] μ5 0 0
  refine Z_istore (pc' := 29) (lo' := [some (.ref 11), some (vi x1), some (vi x2), some (vi x3), some (vi x4), some (vi (gI μ 24 x1)), some (vi (gI μ 24 (x1 + 1))), some (vi r6), none]) dX4_tryLine_27 rfl (by decide) rfl ?_
  refine Z_aload_n (pc' := 30) dX4_tryLine_29 rfl rfl ?_
  refine Z_iload (pc' := 32) dX4_tryLine_30 rfl rfl ?_
  refine Z_iload (pc' := 34) dX4_tryLine_32 rfl rfl ?_
  refine Z_callV0 (M' := mX4_leastCostFrom) (pc' := 37) (st := []) [vi (gI μ 24 (x1 + 1)), vi r6] dX4_tryLine_34 rfl vX4_leastCostFrom lX4_110 (Or.inl dd_11) rfl (Nat.le_of_ble_eq_true rfl) (Nat.le_refl 0) (Nat.le_refl 0) ?_
  refine Cl_mono P ?_
  rintro _ μ7 ⟨r8, rfl, P⟩
  show Z SS none mX4_tryLine (d + 1) 0 0 (qV Q) 37 [some (.ref 11), some (vi x1), some (vi x2), some (vi x3), some (vi x4), some (vi (gI μ 24 x1)), some (vi (gI μ 24 (x1 + 1))), some (vi r6), none] [vi r8] μ7 0 0
  refine Z_istore (pc' := 39) (lo' := [some (.ref 11), some (vi x1), some (vi x2), some (vi x3), some (vi x4), some (vi (gI μ 24 x1)), some (vi (gI μ 24 (x1 + 1))), some (vi r6), some (vi r8)]) dX4_tryLine_37 rfl (by decide) rfl ?_
  refine Z_iload (pc' := 41) dX4_tryLine_39 rfl rfl ?_
  refine Z_iconst (pc' := 42) dX4_tryLine_41 rfl ?_
  have h9 := P.1
  have P := P.2
  refine Z_icmp_eq (tgt := 71) (pc' := 45) dX4_tryLine_42 (by decide) rfl h9 (z_lit rfl) (fun c10 => ?_) (fun c10 => ?_)
  · have P := P.1 c10
    exact Z_return dX4_tryLine_71 rfl (Nat.le_refl 0) (Nat.le_refl 0) P
  · have P := P.2 c10
    refine Z_aload_n (pc' := 46) dX4_tryLine_45 rfl rfl ?_
    refine Z_getB' (ji := 14) (pc' := 49) dX4_tryLine_46 rfl rfl fX4_106 rfl (Or.inl dd_11) ?_
    have h11 := P.1
    have P := P.2
    refine Z_if_eq (tgt := 72) (pc' := 52) dX4_tryLine_49 (by decide) rfl h11 (fun c12 => ?_) (fun c12 => ?_)
    · have P := P.1 c12
      refine Z_aload_n (pc' := 73) dX4_tryLine_72 rfl rfl ?_
      refine Z_iload (pc' := 75) dX4_tryLine_73 rfl rfl ?_
      refine Z_iload (pc' := 77) dX4_tryLine_75 rfl rfl ?_
      refine Z_iload_n (pc' := 78) dX4_tryLine_77 rfl rfl ?_
      refine Z_iload_n (pc' := 79) dX4_tryLine_78 rfl rfl ?_
      refine Z_callV0 (M' := mX4_placeWords) (pc' := 82) (st := []) [vi (gI μ 24 x1), vi (gI μ 24 (x1 + 1)), vi x2, vi x3] dX4_tryLine_79 rfl vX4_placeWords lX4_148 (Or.inl dd_11) rfl (Nat.le_of_ble_eq_true rfl) (Nat.le_refl 0) (Nat.le_refl 0) ?_
      refine Cl_mono P ?_
      rintro _ μ13 ⟨rfl, P⟩
      show Z SS none mX4_tryLine (d + 1) 0 0 (qV Q) 82 [some (.ref 11), some (vi x1), some (vi x2), some (vi x3), some (vi x4), some (vi (gI μ 24 x1)), some (vi (gI μ 24 (x1 + 1))), some (vi r6), some (vi r8)] [] μ13 0 0
      refine Z_aload_n (pc' := 83) dX4_tryLine_82 rfl rfl ?_
      refine Z_iload_n (pc' := 84) dX4_tryLine_83 rfl rfl ?_
      refine Z_callV0 (M' := mX4_chainFromAbove) (pc' := 87) (st := []) [vi x1] dX4_tryLine_84 rfl vX4_chainFromAbove lX4_151 (Or.inl dd_11) rfl (Nat.le_of_ble_eq_true rfl) (Nat.le_refl 0) (Nat.le_refl 0) ?_
      refine Cl_mono P ?_
      rintro _ μ14 ⟨r15, rfl, P⟩
      show Z SS none mX4_tryLine (d + 1) 0 0 (qV Q) 87 [some (.ref 11), some (vi x1), some (vi x2), some (vi x3), some (vi x4), some (vi (gI μ 24 x1)), some (vi (gI μ 24 (x1 + 1))), some (vi r6), some (vi r8)] [vi r15] μ14 0 0
      refine Z_aload_n (pc' := 88) dX4_tryLine_87 rfl rfl ?_
      refine Z_getI' (ji := 5) (pc' := 91) dX4_tryLine_88 rfl rfl fX4_83 rfl (Or.inl dd_11) ?_
      have h16 := P.1
      have P := P.2
      have h17 := P.1
      have P := P.2
      refine Z_icmp_gt (tgt := 105) (pc' := 94) dX4_tryLine_91 (by decide) rfl h16 h17 (fun c18 => ?_) (fun c18 => ?_)
      · have P := P.1 c18
        exact Z_return dX4_tryLine_105 rfl (Nat.le_refl 0) (Nat.le_refl 0) P
      · have P := P.2 c18
        refine Z_aload_n (pc' := 95) dX4_tryLine_94 rfl rfl ?_
        refine Z_iload_n (pc' := 96) dX4_tryLine_95 rfl rfl ?_
        refine Z_iconst (pc' := 97) dX4_tryLine_96 rfl ?_
        refine Z_iadd (pc' := 98) dX4_tryLine_97 rfl ?_
        refine Z_iload (pc' := 100) dX4_tryLine_98 rfl rfl ?_
        refine Z_iload (pc' := 102) dX4_tryLine_100 rfl rfl ?_
        refine Z_callV0 (M' := mX4_layFrom) (pc' := 105) (st := []) [vi (x1 + 1), vi r6, vi x4] dX4_tryLine_102 rfl vX4_layFrom lX4_114 (Or.inl dd_11) rfl (Nat.le_of_ble_eq_true rfl) (Nat.le_refl 0) (Nat.le_refl 0) ?_
        refine Cl_mono P ?_
        rintro _ μ19 ⟨rfl, P⟩
        show Z SS none mX4_tryLine (d + 1) 0 0 (qV Q) 105 [some (.ref 11), some (vi x1), some (vi x2), some (vi x3), some (vi x4), some (vi (gI μ 24 x1)), some (vi (gI μ 24 (x1 + 1))), some (vi r6), some (vi r8)] [] μ19 0 0
        exact Z_return dX4_tryLine_105 rfl (Nat.le_refl 0) (Nat.le_refl 0) P
    · have P := P.2 c12
      refine Z_aload_n (pc' := 53) dX4_tryLine_52 rfl rfl ?_
      refine Z_getI' (ji := 12) (pc' := 56) dX4_tryLine_53 rfl rfl fX4_55 rfl (Or.inl dd_11) ?_
      have h20 := P.1
      have P := P.2
      refine Z_if_le (tgt := 72) (pc' := 59) dX4_tryLine_56 (by decide) rfl h20 (fun c21 => ?_) (fun c21 => ?_)
      · have P := P.1 c21
        refine Z_aload_n (pc' := 73) dX4_tryLine_72 rfl rfl ?_
        refine Z_iload (pc' := 75) dX4_tryLine_73 rfl rfl ?_
        refine Z_iload (pc' := 77) dX4_tryLine_75 rfl rfl ?_
        refine Z_iload_n (pc' := 78) dX4_tryLine_77 rfl rfl ?_
        refine Z_iload_n (pc' := 79) dX4_tryLine_78 rfl rfl ?_
        refine Z_callV0 (M' := mX4_placeWords) (pc' := 82) (st := []) [vi (gI μ 24 x1), vi (gI μ 24 (x1 + 1)), vi x2, vi x3] dX4_tryLine_79 rfl vX4_placeWords lX4_148 (Or.inl dd_11) rfl (Nat.le_of_ble_eq_true rfl) (Nat.le_refl 0) (Nat.le_refl 0) ?_
        refine Cl_mono P ?_
        rintro _ μ22 ⟨rfl, P⟩
        show Z SS none mX4_tryLine (d + 1) 0 0 (qV Q) 82 [some (.ref 11), some (vi x1), some (vi x2), some (vi x3), some (vi x4), some (vi (gI μ 24 x1)), some (vi (gI μ 24 (x1 + 1))), some (vi r6), some (vi r8)] [] μ22 0 0
        refine Z_aload_n (pc' := 83) dX4_tryLine_82 rfl rfl ?_
        refine Z_iload_n (pc' := 84) dX4_tryLine_83 rfl rfl ?_
        refine Z_callV0 (M' := mX4_chainFromAbove) (pc' := 87) (st := []) [vi x1] dX4_tryLine_84 rfl vX4_chainFromAbove lX4_151 (Or.inl dd_11) rfl (Nat.le_of_ble_eq_true rfl) (Nat.le_refl 0) (Nat.le_refl 0) ?_
        refine Cl_mono P ?_
        rintro _ μ23 ⟨r24, rfl, P⟩
        show Z SS none mX4_tryLine (d + 1) 0 0 (qV Q) 87 [some (.ref 11), some (vi x1), some (vi x2), some (vi x3), some (vi x4), some (vi (gI μ 24 x1)), some (vi (gI μ 24 (x1 + 1))), some (vi r6), some (vi r8)] [vi r24] μ23 0 0
        refine Z_aload_n (pc' := 88) dX4_tryLine_87 rfl rfl ?_
        refine Z_getI' (ji := 5) (pc' := 91) dX4_tryLine_88 rfl rfl fX4_83 rfl (Or.inl dd_11) ?_
        have h25 := P.1
        have P := P.2
        have h26 := P.1
        have P := P.2
        refine Z_icmp_gt (tgt := 105) (pc' := 94) dX4_tryLine_91 (by decide) rfl h25 h26 (fun c27 => ?_) (fun c27 => ?_)
        · have P := P.1 c27
          exact Z_return dX4_tryLine_105 rfl (Nat.le_refl 0) (Nat.le_refl 0) P
        · have P := P.2 c27
          refine Z_aload_n (pc' := 95) dX4_tryLine_94 rfl rfl ?_
          refine Z_iload_n (pc' := 96) dX4_tryLine_95 rfl rfl ?_
          refine Z_iconst (pc' := 97) dX4_tryLine_96 rfl ?_
          refine Z_iadd (pc' := 98) dX4_tryLine_97 rfl ?_
          refine Z_iload (pc' := 100) dX4_tryLine_98 rfl rfl ?_
          refine Z_iload (pc' := 102) dX4_tryLine_100 rfl rfl ?_
          refine Z_callV0 (M' := mX4_layFrom) (pc' := 105) (st := []) [vi (x1 + 1), vi r6, vi x4] dX4_tryLine_102 rfl vX4_layFrom lX4_114 (Or.inl dd_11) rfl (Nat.le_of_ble_eq_true rfl) (Nat.le_refl 0) (Nat.le_refl 0) ?_
          refine Cl_mono P ?_
          rintro _ μ28 ⟨rfl, P⟩
          show Z SS none mX4_tryLine (d + 1) 0 0 (qV Q) 105 [some (.ref 11), some (vi x1), some (vi x2), some (vi x3), some (vi x4), some (vi (gI μ 24 x1)), some (vi (gI μ 24 (x1 + 1))), some (vi r6), some (vi r8)] [] μ28 0 0
          exact Z_return dX4_tryLine_105 rfl (Nat.le_refl 0) (Nat.le_refl 0) P
      · have P := P.2 c21
        refine Z_iload (pc' := 61) dX4_tryLine_59 rfl rfl ?_
        refine Z_iload (pc' := 63) dX4_tryLine_61 rfl rfl ?_
        refine Z_iadd (pc' := 64) dX4_tryLine_63 rfl ?_
        refine Z_aload_n (pc' := 65) dX4_tryLine_64 rfl rfl ?_
        refine Z_getI' (ji := 17) (pc' := 68) dX4_tryLine_65 rfl rfl fX4_67 rfl (Or.inl dd_11) ?_
        have h29 := P.1
        have P := P.2
        have h30 := P.1
        have P := P.2
        refine Z_icmp_lt (tgt := 72) (pc' := 71) dX4_tryLine_68 (by decide) rfl h29 h30 (fun c31 => ?_) (fun c31 => ?_)
        · have P := P.1 c31
          refine Z_aload_n (pc' := 73) dX4_tryLine_72 rfl rfl ?_
          refine Z_iload (pc' := 75) dX4_tryLine_73 rfl rfl ?_
          refine Z_iload (pc' := 77) dX4_tryLine_75 rfl rfl ?_
          refine Z_iload_n (pc' := 78) dX4_tryLine_77 rfl rfl ?_
          refine Z_iload_n (pc' := 79) dX4_tryLine_78 rfl rfl ?_
          refine Z_callV0 (M' := mX4_placeWords) (pc' := 82) (st := []) [vi (gI μ 24 x1), vi (gI μ 24 (x1 + 1)), vi x2, vi x3] dX4_tryLine_79 rfl vX4_placeWords lX4_148 (Or.inl dd_11) rfl (Nat.le_of_ble_eq_true rfl) (Nat.le_refl 0) (Nat.le_refl 0) ?_
          refine Cl_mono P ?_
          rintro _ μ32 ⟨rfl, P⟩
          show Z SS none mX4_tryLine (d + 1) 0 0 (qV Q) 82 [some (.ref 11), some (vi x1), some (vi x2), some (vi x3), some (vi x4), some (vi (gI μ 24 x1)), some (vi (gI μ 24 (x1 + 1))), some (vi r6), some (vi r8)] [] μ32 0 0
          refine Z_aload_n (pc' := 83) dX4_tryLine_82 rfl rfl ?_
          refine Z_iload_n (pc' := 84) dX4_tryLine_83 rfl rfl ?_
          refine Z_callV0 (M' := mX4_chainFromAbove) (pc' := 87) (st := []) [vi x1] dX4_tryLine_84 rfl vX4_chainFromAbove lX4_151 (Or.inl dd_11) rfl (Nat.le_of_ble_eq_true rfl) (Nat.le_refl 0) (Nat.le_refl 0) ?_
          refine Cl_mono P ?_
          rintro _ μ33 ⟨r34, rfl, P⟩
          show Z SS none mX4_tryLine (d + 1) 0 0 (qV Q) 87 [some (.ref 11), some (vi x1), some (vi x2), some (vi x3), some (vi x4), some (vi (gI μ 24 x1)), some (vi (gI μ 24 (x1 + 1))), some (vi r6), some (vi r8)] [vi r34] μ33 0 0
          refine Z_aload_n (pc' := 88) dX4_tryLine_87 rfl rfl ?_
          refine Z_getI' (ji := 5) (pc' := 91) dX4_tryLine_88 rfl rfl fX4_83 rfl (Or.inl dd_11) ?_
          have h35 := P.1
          have P := P.2
          have h36 := P.1
          have P := P.2
          refine Z_icmp_gt (tgt := 105) (pc' := 94) dX4_tryLine_91 (by decide) rfl h35 h36 (fun c37 => ?_) (fun c37 => ?_)
          · have P := P.1 c37
            exact Z_return dX4_tryLine_105 rfl (Nat.le_refl 0) (Nat.le_refl 0) P
          · have P := P.2 c37
            refine Z_aload_n (pc' := 95) dX4_tryLine_94 rfl rfl ?_
            refine Z_iload_n (pc' := 96) dX4_tryLine_95 rfl rfl ?_
            refine Z_iconst (pc' := 97) dX4_tryLine_96 rfl ?_
            refine Z_iadd (pc' := 98) dX4_tryLine_97 rfl ?_
            refine Z_iload (pc' := 100) dX4_tryLine_98 rfl rfl ?_
            refine Z_iload (pc' := 102) dX4_tryLine_100 rfl rfl ?_
            refine Z_callV0 (M' := mX4_layFrom) (pc' := 105) (st := []) [vi (x1 + 1), vi r6, vi x4] dX4_tryLine_102 rfl vX4_layFrom lX4_114 (Or.inl dd_11) rfl (Nat.le_of_ble_eq_true rfl) (Nat.le_refl 0) (Nat.le_refl 0) ?_
            refine Cl_mono P ?_
            rintro _ μ38 ⟨rfl, P⟩
            show Z SS none mX4_tryLine (d + 1) 0 0 (qV Q) 105 [some (.ref 11), some (vi x1), some (vi x2), some (vi x3), some (vi x4), some (vi (gI μ 24 x1)), some (vi (gI μ 24 (x1 + 1))), some (vi r6), some (vi r8)] [] μ38 0 0
            exact Z_return dX4_tryLine_105 rfl (Nat.le_refl 0) (Nat.le_refl 0) P
        · have P := P.2 c31
          exact Z_return dX4_tryLine_71 rfl (Nat.le_refl 0) (Nat.le_refl 0) P
abbrev zX4_layFrom_40 (d : Nat) (Q : zMem → Prop) (x1 : Int) (x2 : Int) (x3 : Int) (x4 : Int) (x5 : Int) (μ : zMem) : Prop := Z SS none mX4_layFrom (d + 1) 0 0 (qV Q) 40 [some (.ref 11), some (vi x1), some (vi x2), some (vi x3), some (vi x4), some (vi x5), none] [] μ 0 0
theorem bX4_layFrom {d : Nat} {Q : zMem → Prop} {μ : zMem} {x1 : Int} {x2 : Int} {x3 : Int} (P : (0 ≤ x1) ∧ ((x1 < 15) ∧ ((zIn (gI μ 24 x1)) ∧ ((zIn (gI μ 16 0)) ∧ (((gI μ 24 x1) < (gI μ 16 0) → ((zIn x1) ∧ ((x1 < 14 → (zX4_layFrom_40 d Q x1 x2 x3 (gI μ 24 x1) ((gI μ 24 x1) + 1) μ)) ∧ (¬ (x1 < 14) → (Q μ))))) ∧ (¬ ((gI μ 24 x1) < (gI μ 16 0)) → (kX4_keep d x1 x3 μ (fun μ8 : zMem => Q μ8)))))))) : kX4_layFrom (d + 1) x1 x2 x3 μ Q := by
  refine Cl_of rfl (Nat.le_of_ble_eq_true rfl) rfl ?_
  show Z SS none mX4_layFrom (d + 1) 0 0 (qV Q) 0 [some (.ref 11), some (vi x1), some (vi x2), some (vi x3), none, none, none] [] μ 0 0
  refine Z_aload_n (pc' := 1) dX4_layFrom_0 rfl rfl ?_
  refine Z_getR (q := 24) (pc' := 4) dX4_layFrom_1 rfl fX4_29 rfl (Or.inl dd_11) (Or.inl rr_11_7) ?_
  refine Z_iload_n (pc' := 5) dX4_layFrom_4 rfl rfl ?_
  have h1 := P.1
  have P := P.2
  have h2 := P.1
  have P := P.2
  refine Z_iaload (pc' := 6) dX4_layFrom_5 rfl (Or.inl dd_24) (Nat.le_of_ble_eq_true rfl) h1 h2 ?_
  refine Z_istore (pc' := 8) (lo' := [some (.ref 11), some (vi x1), some (vi x2), some (vi x3), some (vi (gI μ 24 x1)), none, none]) dX4_layFrom_6 rfl (by decide) rfl ?_
  refine Z_iload (pc' := 10) dX4_layFrom_8 rfl rfl ?_
  refine Z_aload_n (pc' := 11) dX4_layFrom_10 rfl rfl ?_
  refine Z_getR (q := 16) (pc' := 14) dX4_layFrom_11 rfl fX4_21 rfl (Or.inl dd_11) (Or.inl rr_11_1) ?_
  refine Z_getI' (ji := 0) (pc' := 17) dX4_layFrom_14 rfl rfl fX4_86 rfl (Or.inl dd_16) ?_
  have h3 := P.1
  have P := P.2
  have h4 := P.1
  have P := P.2
  refine Z_icmp_lt (tgt := 27) (pc' := 20) dX4_layFrom_17 (by decide) rfl h3 h4 (fun c5 => ?_) (fun c5 => ?_)
  · have P := P.1 c5
    refine Z_iload_n (pc' := 28) dX4_layFrom_27 rfl rfl ?_
    refine Z_bipush (pc' := 30) dX4_layFrom_28 rfl rfl ?_
    have h6 := P.1
    have P := P.2
    refine Z_icmp_lt (tgt := 34) (pc' := 33) dX4_layFrom_30 (by decide) rfl h6 (z_lit rfl) (fun c7 => ?_) (fun c7 => ?_)
    · have P := P.1 c7
      refine Z_iload (pc' := 36) dX4_layFrom_34 rfl rfl ?_
      refine Z_iconst (pc' := 37) dX4_layFrom_36 rfl ?_
      refine Z_iadd (pc' := 38) dX4_layFrom_37 rfl ?_
      refine Z_istore (pc' := 40) (lo' := [some (.ref 11), some (vi x1), some (vi x2), some (vi x3), some (vi (gI μ 24 x1)), some (vi ((gI μ 24 x1) + 1)), none]) dX4_layFrom_38 rfl (by decide) rfl ?_
      exact P
    · have P := P.2 c7
      exact Z_return dX4_layFrom_33 rfl (Nat.le_refl 0) (Nat.le_refl 0) P
  · have P := P.2 c5
    refine Z_aload_n (pc' := 21) dX4_layFrom_20 rfl rfl ?_
    refine Z_iload_n (pc' := 22) dX4_layFrom_21 rfl rfl ?_
    refine Z_iload_n (pc' := 23) dX4_layFrom_22 rfl rfl ?_
    refine Z_callV0 (M' := mX4_keep) (pc' := 26) (st := []) [vi x1, vi x3] dX4_layFrom_23 rfl vX4_keep lX4_140 (Or.inl dd_11) rfl (Nat.le_of_ble_eq_true rfl) (Nat.le_refl 0) (Nat.le_refl 0) ?_
    refine Cl_mono P ?_
    rintro _ μ8 ⟨rfl, P⟩
    show Z SS none mX4_layFrom (d + 1) 0 0 (qV Q) 26 [some (.ref 11), some (vi x1), some (vi x2), some (vi x3), some (vi (gI μ 24 x1)), none, none] [] μ8 0 0
    exact Z_return dX4_layFrom_26 rfl (Nat.le_refl 0) (Nat.le_refl 0) P
theorem bX4_layFrom_40 {d : Nat} {Q : zMem → Prop} {μ : zMem} {x1 : Int} {x2 : Int} {x3 : Int} {x4 : Int} {x5 : Int} (P : (0 ≤ x4) ∧ ((x4 < 14) ∧ ((zIn x5) ∧ ((zIn (gI μ 20 x4)) ∧ (((gI μ 20 x4) < x5 → (Q μ)) ∧ (¬ ((gI μ 20 x4) < x5) → ((zIn (gI μ 11 12)) ∧ ((zIn (gI μ 11 13)) ∧ (((gI μ 11 13) ≤ (gI μ 11 12) → (Q μ)) ∧ (¬ ((gI μ 11 13) ≤ (gI μ 11 12)) → (kX4_slackOf d x4 x5 x2 μ (fun (r10 : Int) (μ9 : zMem) => (zIn r10) ∧ ((r10 = (-1) → (Q μ9)) ∧ (¬ (r10 = (-1)) → ((0 ≤ (x1 + 1)) ∧ (((x1 + 1) < 15) ∧ (kX4_tryLine d x1 x2 r10 (x3 + (r10 * r10)) (sI μ9 24 (x1 + 1) x5) (fun μ15 : zMem => zX4_layFrom_40 d Q x1 x2 x3 x4 (x5 + 1) μ15)))))))))))))))))) : zX4_layFrom_40 d Q x1 x2 x3 x4 x5 μ := by
  refine Z_iload (pc' := 42) dX4_layFrom_40 rfl rfl ?_
  refine Z_aload_n (pc' := 43) dX4_layFrom_42 rfl rfl ?_
  refine Z_getR (q := 16) (pc' := 46) dX4_layFrom_43 rfl fX4_21 rfl (Or.inl dd_11) (Or.inl rr_11_1) ?_
  refine Z_getR (q := 20) (pc' := 49) dX4_layFrom_46 rfl fX4_121 rfl (Or.inl dd_16) (Or.inl rr_16_4) ?_
  refine Z_iload (pc' := 51) dX4_layFrom_49 rfl rfl ?_
  have h1 := P.1
  have P := P.2
  have h2 := P.1
  have P := P.2
  refine Z_iaload (pc' := 52) dX4_layFrom_51 rfl (Or.inl dd_20) (Nat.le_of_ble_eq_true rfl) h1 h2 ?_
  have h3 := P.1
  have P := P.2
  have h4 := P.1
  have P := P.2
  refine Z_icmp_gt (tgt := 117) (pc' := 55) dX4_layFrom_52 (by decide) rfl h3 h4 (fun c5 => ?_) (fun c5 => ?_)
  · have P := P.1 c5
    exact Z_return dX4_layFrom_117 rfl (Nat.le_refl 0) (Nat.le_refl 0) P
  · have P := P.2 c5
    refine Z_aload_n (pc' := 56) dX4_layFrom_55 rfl rfl ?_
    refine Z_getI' (ji := 12) (pc' := 59) dX4_layFrom_56 rfl rfl fX4_55 rfl (Or.inl dd_11) ?_
    refine Z_aload_n (pc' := 60) dX4_layFrom_59 rfl rfl ?_
    refine Z_getI' (ji := 13) (pc' := 63) dX4_layFrom_60 rfl rfl fX4_103 rfl (Or.inl dd_11) ?_
    have h6 := P.1
    have P := P.2
    have h7 := P.1
    have P := P.2
    refine Z_icmp_ge (tgt := 117) (pc' := 66) dX4_layFrom_63 (by decide) rfl h6 h7 (fun c8 => ?_) (fun c8 => ?_)
    · have P := P.1 c8
      exact Z_return dX4_layFrom_117 rfl (Nat.le_refl 0) (Nat.le_refl 0) P
    · have P := P.2 c8
      refine Z_aload_n (pc' := 67) dX4_layFrom_66 rfl rfl ?_
      refine Z_iload (pc' := 69) dX4_layFrom_67 rfl rfl ?_
      refine Z_iload (pc' := 71) dX4_layFrom_69 rfl rfl ?_
      refine Z_iload_n (pc' := 72) dX4_layFrom_71 rfl rfl ?_
      refine Z_callV0 (M' := mX4_slackOf) (pc' := 75) (st := []) [vi x4, vi x5, vi x2] dX4_layFrom_72 rfl vX4_slackOf lX4_124 (Or.inl dd_11) rfl (Nat.le_of_ble_eq_true rfl) (Nat.le_refl 0) (Nat.le_refl 0) ?_
      refine Cl_mono P ?_
      rintro _ μ9 ⟨r10, rfl, P⟩
      show Z SS none mX4_layFrom (d + 1) 0 0 (qV Q) 75 [some (.ref 11), some (vi x1), some (vi x2), some (vi x3), some (vi x4), some (vi x5), none] [vi r10] μ9 0 0
      refine Z_istore (pc' := 77) (lo' := [some (.ref 11), some (vi x1), some (vi x2), some (vi x3), some (vi x4), some (vi x5), some (vi r10)]) dX4_layFrom_75 rfl (by decide) rfl ?_
      refine Z_iload (pc' := 79) dX4_layFrom_77 rfl rfl ?_
      refine Z_iconst (pc' := 80) dX4_layFrom_79 rfl ?_
      have h11 := P.1
      have P := P.2
      refine Z_icmp_ne (tgt := 86) (pc' := 83) dX4_layFrom_80 (by decide) rfl h11 (z_lit rfl) (fun c12 => ?_) (fun c12 => ?_)
      · have P := P.2 c12
        refine Z_aload_n (pc' := 87) dX4_layFrom_86 rfl rfl ?_
        refine Z_getR (q := 24) (pc' := 90) dX4_layFrom_87 rfl fX4_29 rfl (Or.inl dd_11) (Or.inl rr_11_7) ?_
        refine Z_iload_n (pc' := 91) dX4_layFrom_90 rfl rfl ?_
        refine Z_iconst (pc' := 92) dX4_layFrom_91 rfl ?_
        refine Z_iadd (pc' := 93) dX4_layFrom_92 rfl ?_
        refine Z_iload (pc' := 95) dX4_layFrom_93 rfl rfl ?_
        have h13 := P.1
        have P := P.2
        have h14 := P.1
        have P := P.2
        refine Z_iastore (pc' := 96) dX4_layFrom_95 rfl (Or.inl dd_24) (Nat.le_of_ble_eq_true rfl) h13 h14 ?_
        refine Z_aload_n (pc' := 97) dX4_layFrom_96 rfl rfl ?_
        refine Z_iload_n (pc' := 98) dX4_layFrom_97 rfl rfl ?_
        refine Z_iload_n (pc' := 99) dX4_layFrom_98 rfl rfl ?_
        refine Z_iload (pc' := 101) dX4_layFrom_99 rfl rfl ?_
        refine Z_iload_n (pc' := 102) dX4_layFrom_101 rfl rfl ?_
        refine Z_iload (pc' := 104) dX4_layFrom_102 rfl rfl ?_
        refine Z_iload (pc' := 106) dX4_layFrom_104 rfl rfl ?_
        refine Z_imul (pc' := 107) dX4_layFrom_106 rfl ?_
        refine Z_iadd (pc' := 108) dX4_layFrom_107 rfl ?_
        refine Z_callV0 (M' := mX4_tryLine) (pc' := 111) (st := []) [vi x1, vi x2, vi r10, vi (x3 + (r10 * r10))] dX4_layFrom_108 rfl vX4_tryLine lX4_144 (Or.inl dd_11) rfl (Nat.le_of_ble_eq_true rfl) (Nat.le_refl 0) (Nat.le_refl 0) ?_
        refine Cl_mono P ?_
        rintro _ μ15 ⟨rfl, P⟩
        show Z SS none mX4_layFrom (d + 1) 0 0 (qV Q) 111 [some (.ref 11), some (vi x1), some (vi x2), some (vi x3), some (vi x4), some (vi x5), some (vi r10)] [] μ15 0 0
        refine Z_iinc (pc' := 114) (lo' := [some (.ref 11), some (vi x1), some (vi x2), some (vi x3), some (vi x4), some (vi (x5 + 1)), some (vi r10)]) dX4_layFrom_111 rfl (by decide) rfl rfl ?_
        refine Z_goto (tgt := 40) dX4_layFrom_114 (by decide) ?_
        refine Z_wk [true, true, true, true, true, true, false] rfl ?_
        exact P
      · have P := P.1 c12
        refine Z_goto (tgt := 117) dX4_layFrom_83 (by decide) ?_
        exact Z_return dX4_layFrom_117 rfl (Nat.le_refl 0) (Nat.le_refl 0) P
theorem bX4_run {d : Nat} {Q : zMem → Prop} {μ : zMem} {x1 : Int} {x2 : Int} (P : (x2 = 0 ∨ x2 = 1) ∧ (kX4_leastCostFrom d 0 (gI (sI (sI (sI (sI μ 11 12 0) 11 13 x1) 11 14 x2) 24 0 0) 11 2) (sI (sI (sI (sI μ 11 12 0) 11 13 x1) 11 14 x2) 24 0 0) (fun (r3 : Int) (μ2 : zMem) => (zIn r3) ∧ ((r3 = (-1) → (Q μ2)) ∧ (¬ (r3 = (-1)) → (kX4_layFrom d 0 (gI μ2 11 2) 0 μ2 (fun μ6 : zMem => Q μ6))))))) : kX4_run (d + 1) x1 x2 μ Q := by
  refine Cl_of rfl (Nat.le_of_ble_eq_true rfl) rfl ?_
  show Z SS none mX4_run (d + 1) 0 0 (qV Q) 0 [some (.ref 11), some (vi x1), some (vi x2)] [] μ 0 0
  refine Z_aload_n (pc' := 1) dX4_run_0 rfl rfl ?_
  refine Z_iconst (pc' := 2) dX4_run_1 rfl ?_
  refine Z_putI' (ji := 12) (pc' := 5) dX4_run_2 rfl rfl fX4_55 (Or.inl rfl) rfl (Or.inl dd_11) ?_
  refine Z_aload_n (pc' := 6) dX4_run_5 rfl rfl ?_
  refine Z_iload_n (pc' := 7) dX4_run_6 rfl rfl ?_
  refine Z_putI' (ji := 13) (pc' := 10) dX4_run_7 rfl rfl fX4_103 (Or.inl rfl) rfl (Or.inl dd_11) ?_
  refine Z_aload_n (pc' := 11) dX4_run_10 rfl rfl ?_
  refine Z_iload_n (pc' := 12) dX4_run_11 rfl rfl ?_
  have h1 := P.1
  have P := P.2
  refine Z_putB' (ji := 14) (pc' := 15) dX4_run_12 rfl rfl fX4_106 (Or.inl rfl) rfl h1 (Or.inl dd_11) ?_
  refine Z_aload_n (pc' := 16) dX4_run_15 rfl rfl ?_
  refine Z_getR (q := 24) (pc' := 19) dX4_run_16 rfl fX4_29 rfl (Or.inl dd_11) (Or.inl rr_11_7) ?_
  refine Z_iconst (pc' := 20) dX4_run_19 rfl ?_
  refine Z_iconst (pc' := 21) dX4_run_20 rfl ?_
  refine Z_iastore (pc' := 22) dX4_run_21 rfl (Or.inl dd_24) (Nat.le_of_ble_eq_true rfl) (by decide) (by decide) ?_
  refine Z_aload_n (pc' := 23) dX4_run_22 rfl rfl ?_
  refine Z_iconst (pc' := 24) dX4_run_23 rfl ?_
  refine Z_aload_n (pc' := 25) dX4_run_24 rfl rfl ?_
  refine Z_getI' (ji := 2) (pc' := 28) dX4_run_25 rfl rfl fX4_74 rfl (Or.inl dd_11) ?_
  refine Z_callV0 (M' := mX4_leastCostFrom) (pc' := 31) (st := []) [vi 0, vi (gI (sI (sI (sI (sI μ 11 12 0) 11 13 x1) 11 14 x2) 24 0 0) 11 2)] dX4_run_28 rfl vX4_leastCostFrom lX4_110 (Or.inl dd_11) rfl (Nat.le_of_ble_eq_true rfl) (Nat.le_refl 0) (Nat.le_refl 0) ?_
  refine Cl_mono P ?_
  rintro _ μ2 ⟨r3, rfl, P⟩
  show Z SS none mX4_run (d + 1) 0 0 (qV Q) 31 [some (.ref 11), some (vi x1), some (vi x2)] [vi r3] μ2 0 0
  refine Z_iconst (pc' := 32) dX4_run_31 rfl ?_
  have h4 := P.1
  have P := P.2
  refine Z_icmp_eq (tgt := 45) (pc' := 35) dX4_run_32 (by decide) rfl h4 (z_lit rfl) (fun c5 => ?_) (fun c5 => ?_)
  · have P := P.1 c5
    exact Z_return dX4_run_45 rfl (Nat.le_refl 0) (Nat.le_refl 0) P
  · have P := P.2 c5
    refine Z_aload_n (pc' := 36) dX4_run_35 rfl rfl ?_
    refine Z_iconst (pc' := 37) dX4_run_36 rfl ?_
    refine Z_aload_n (pc' := 38) dX4_run_37 rfl rfl ?_
    refine Z_getI' (ji := 2) (pc' := 41) dX4_run_38 rfl rfl fX4_74 rfl (Or.inl dd_11) ?_
    refine Z_iconst (pc' := 42) dX4_run_41 rfl ?_
    refine Z_callV0 (M' := mX4_layFrom) (pc' := 45) (st := []) [vi 0, vi (gI μ2 11 2), vi 0] dX4_run_42 rfl vX4_layFrom lX4_114 (Or.inl dd_11) rfl (Nat.le_of_ble_eq_true rfl) (Nat.le_refl 0) (Nat.le_refl 0) ?_
    refine Cl_mono P ?_
    rintro _ μ6 ⟨rfl, P⟩
    show Z SS none mX4_run (d + 1) 0 0 (qV Q) 45 [some (.ref 11), some (vi x1), some (vi x2)] [] μ6 0 0
    exact Z_return dX4_run_45 rfl (Nat.le_refl 0) (Nat.le_refl 0) P
theorem bX4_hasLayout {d : Nat} {Q : Int → zMem → Prop} {μ : zMem} {x2 : Int} {x3 : Int} {x4 : Int} (P : kX4_prepare d x2 x3 x4 μ (fun (r2 : Int) (μ1 : zMem) => (zIn r2) ∧ ((r2 = 0 → (Q 0 μ1)) ∧ (¬ (r2 = 0) → (kX4_run d 1 0 μ1 (fun μ5 : zMem => ((zIn (gI μ5 11 12))) ∧ (Q (if (gI μ5 11 12) ≤ 0 then 0 else 1) μ5))))))) : kX4_hasLayout (d + 1) x2 x3 x4 μ Q := by
  refine Cl_of rfl (Nat.le_of_ble_eq_true rfl) rfl ?_
  show Z SS none mX4_hasLayout (d + 1) 0 0 (qI Q) 0 [some (.ref 11), some (.ref 1), some (vi x2), some (vi x3), some (vi x4)] [] μ 0 0
  refine Z_aload_n (pc' := 1) dX4_hasLayout_0 rfl rfl ?_
  refine Z_aload_n (pc' := 2) dX4_hasLayout_1 rfl rfl ?_
  refine Z_iload_n (pc' := 3) dX4_hasLayout_2 rfl rfl ?_
  refine Z_iload_n (pc' := 4) dX4_hasLayout_3 rfl rfl ?_
  refine Z_iload (pc' := 6) dX4_hasLayout_4 rfl rfl ?_
  refine Z_callV0 (M' := mX4_prepare) (pc' := 9) (st := []) [.ref 1, vi x2, vi x3, vi x4] dX4_hasLayout_6 rfl vX4_prepare lX4_47 (Or.inl dd_11) rfl (Nat.le_of_ble_eq_true rfl) (Nat.le_refl 0) (Nat.le_refl 0) ?_
  refine Cl_mono P ?_
  rintro _ μ1 ⟨r2, rfl, P⟩
  show Z SS none mX4_hasLayout (d + 1) 0 0 (qI Q) 9 [some (.ref 11), some (.ref 1), some (vi x2), some (vi x3), some (vi x4)] [vi r2] μ1 0 0
  have h3 := P.1
  have P := P.2
  refine Z_if_ne (tgt := 14) (pc' := 12) dX4_hasLayout_9 (by decide) rfl h3 (fun c4 => ?_) (fun c4 => ?_)
  · have P := P.2 c4
    refine Z_aload_n (pc' := 15) dX4_hasLayout_14 rfl rfl ?_
    refine Z_iconst (pc' := 16) dX4_hasLayout_15 rfl ?_
    refine Z_iconst (pc' := 17) dX4_hasLayout_16 rfl ?_
    refine Z_callV0 (M' := mX4_run) (pc' := 20) (st := []) [vi 1, vi 0] dX4_hasLayout_17 rfl vX4_run lX4_51 (Or.inl dd_11) rfl (Nat.le_of_ble_eq_true rfl) (Nat.le_refl 0) (Nat.le_refl 0) ?_
    refine Cl_mono P ?_
    rintro _ μ5 ⟨rfl, P⟩
    show Z SS none mX4_hasLayout (d + 1) 0 0 (qI Q) 20 [some (.ref 11), some (.ref 1), some (vi x2), some (vi x3), some (vi x4)] [] μ5 0 0
    refine Z_aload_n (pc' := 21) dX4_hasLayout_20 rfl rfl ?_
    refine Z_getI' (ji := 12) (pc' := 24) dX4_hasLayout_21 rfl rfl fX4_55 rfl (Or.inl dd_11) ?_
    have K : ∀ t8 : Int, t8 = (if (gI μ5 11 12) ≤ 0 then 0 else 1) → Z SS none mX4_hasLayout (d + 1) 0 0 (qI Q) 32 [some (.ref 11), some (.ref 1), some (vi x2), some (vi x3), some (vi x4)] [vi t8] μ5 0 0 := by
      rintro _ rfl
      have P := P.2
      exact Z_zreturn dX4_hasLayout_32 rfl (by (repeat' split) <;> simp) (Nat.le_refl 0) (Nat.le_refl 0) P
    have G := P.1
    have h6 := G
    refine Z_if_le (tgt := 31) (pc' := 27) dX4_hasLayout_24 (by decide) rfl h6 (fun c7 => ?_) (fun c7 => ?_)
    · refine Z_iconst (pc' := 32) dX4_hasLayout_31 rfl ?_
      exact K _ (by rw [if_pos c7])
    · refine Z_iconst (pc' := 28) dX4_hasLayout_27 rfl ?_
      refine Z_goto (tgt := 32) dX4_hasLayout_28 (by decide) ?_
      exact K _ (by rw [if_neg c7])
  · have P := P.1 c4
    refine Z_iconst (pc' := 13) dX4_hasLayout_12 rfl ?_
    exact Z_zreturn dX4_hasLayout_13 rfl (Or.inl rfl) (Nat.le_refl 0) (Nat.le_refl 0) P
theorem bX4_countLayouts {d : Nat} {Q : Int → zMem → Prop} {μ : zMem} {x2 : Int} (P : kX4_prepare d x2 (gI μ 6 0) (gI μ 6 7) μ (fun (r2 : Int) (μ1 : zMem) => (zIn r2) ∧ ((r2 = 0 → (Q 0 μ1)) ∧ (¬ (r2 = 0) → (kX4_run d 2147483647 0 μ1 (fun μ5 : zMem => Q (gI μ5 11 12) μ5)))))) : kX4_countLayouts (d + 1) x2 μ Q := by
  refine Cl_of rfl (Nat.le_of_ble_eq_true rfl) rfl ?_
  show Z SS none mX4_countLayouts (d + 1) 0 0 (qI Q) 0 [some (.ref 11), some (.ref 1), some (vi x2)] [] μ 0 0
  refine Z_aload_n (pc' := 1) dX4_countLayouts_0 rfl rfl ?_
  refine Z_aload_n (pc' := 2) dX4_countLayouts_1 rfl rfl ?_
  refine Z_iload_n (pc' := 3) dX4_countLayouts_2 rfl rfl ?_
  refine Z_aload_n (pc' := 4) dX4_countLayouts_3 rfl rfl ?_
  refine Z_getR (q := 6) (pc' := 7) dX4_countLayouts_4 rfl fX4_59 rfl (Or.inl dd_1) (Or.inl rr_1_3) ?_
  refine Z_iconst (pc' := 8) dX4_countLayouts_7 rfl ?_
  refine Z_iaload (pc' := 9) dX4_countLayouts_8 rfl (Or.inl dd_6) (Nat.le_of_ble_eq_true rfl) (by decide) (by decide) ?_
  refine Z_aload_n (pc' := 10) dX4_countLayouts_9 rfl rfl ?_
  refine Z_getR (q := 6) (pc' := 13) dX4_countLayouts_10 rfl fX4_59 rfl (Or.inl dd_1) (Or.inl rr_1_3) ?_
  refine Z_bipush (pc' := 15) dX4_countLayouts_13 rfl rfl ?_
  refine Z_iaload (pc' := 16) dX4_countLayouts_15 rfl (Or.inl dd_6) (Nat.le_of_ble_eq_true rfl) (by decide) (by decide) ?_
  refine Z_callV0 (M' := mX4_prepare) (pc' := 19) (st := []) [.ref 1, vi x2, vi (gI μ 6 0), vi (gI μ 6 7)] dX4_countLayouts_16 rfl vX4_prepare lX4_47 (Or.inl dd_11) rfl (Nat.le_of_ble_eq_true rfl) (Nat.le_refl 0) (Nat.le_refl 0) ?_
  refine Cl_mono P ?_
  rintro _ μ1 ⟨r2, rfl, P⟩
  show Z SS none mX4_countLayouts (d + 1) 0 0 (qI Q) 19 [some (.ref 11), some (.ref 1), some (vi x2)] [vi r2] μ1 0 0
  have h3 := P.1
  have P := P.2
  refine Z_if_ne (tgt := 24) (pc' := 22) dX4_countLayouts_19 (by decide) rfl h3 (fun c4 => ?_) (fun c4 => ?_)
  · have P := P.2 c4
    refine Z_aload_n (pc' := 25) dX4_countLayouts_24 rfl rfl ?_
    refine Z_ldc (pc' := 27) (z := 2147483647) dX4_countLayouts_25 rfl kX4_66 rfl ?_
    refine Z_iconst (pc' := 28) dX4_countLayouts_27 rfl ?_
    refine Z_callV0 (M' := mX4_run) (pc' := 31) (st := []) [vi 2147483647, vi 0] dX4_countLayouts_28 rfl vX4_run lX4_51 (Or.inl dd_11) rfl (Nat.le_of_ble_eq_true rfl) (Nat.le_refl 0) (Nat.le_refl 0) ?_
    refine Cl_mono P ?_
    rintro _ μ5 ⟨rfl, P⟩
    show Z SS none mX4_countLayouts (d + 1) 0 0 (qI Q) 31 [some (.ref 11), some (.ref 1), some (vi x2)] [] μ5 0 0
    refine Z_aload_n (pc' := 32) dX4_countLayouts_31 rfl rfl ?_
    refine Z_getI' (ji := 12) (pc' := 35) dX4_countLayouts_32 rfl rfl fX4_55 rfl (Or.inl dd_11) ?_
    exact Z_ireturn dX4_countLayouts_35 rfl (Nat.le_refl 0) (Nat.le_refl 0) P
  · have P := P.1 c4
    refine Z_iconst (pc' := 23) dX4_countLayouts_22 rfl ?_
    exact Z_ireturn dX4_countLayouts_23 rfl (Nat.le_refl 0) (Nat.le_refl 0) P
theorem bX4_findBest {d : Nat} {Q : Int → zMem → Prop} {μ : zMem} {x2 : Int} (P : kX4_prepare d x2 (gI μ 6 0) (gI μ 6 7) μ (fun (r2 : Int) (μ1 : zMem) => (zIn r2) ∧ ((r2 = 0 → (Q (-1) μ1)) ∧ (¬ (r2 = 0) → (kX4_run d 2147483647 1 μ1 (fun μ5 : zMem => ((zIn (gI μ5 11 12))) ∧ (Q (if (gI μ5 11 12) ≤ 0 then (-1) else (gI μ5 11 17)) μ5))))))) : kX4_findBest (d + 1) x2 μ Q := by
  refine Cl_of rfl (Nat.le_of_ble_eq_true rfl) rfl ?_
  show Z SS none mX4_findBest (d + 1) 0 0 (qI Q) 0 [some (.ref 11), some (.ref 1), some (vi x2)] [] μ 0 0
  refine Z_aload_n (pc' := 1) dX4_findBest_0 rfl rfl ?_
  refine Z_aload_n (pc' := 2) dX4_findBest_1 rfl rfl ?_
  refine Z_iload_n (pc' := 3) dX4_findBest_2 rfl rfl ?_
  refine Z_aload_n (pc' := 4) dX4_findBest_3 rfl rfl ?_
  refine Z_getR (q := 6) (pc' := 7) dX4_findBest_4 rfl fX4_59 rfl (Or.inl dd_1) (Or.inl rr_1_3) ?_
  refine Z_iconst (pc' := 8) dX4_findBest_7 rfl ?_
  refine Z_iaload (pc' := 9) dX4_findBest_8 rfl (Or.inl dd_6) (Nat.le_of_ble_eq_true rfl) (by decide) (by decide) ?_
  refine Z_aload_n (pc' := 10) dX4_findBest_9 rfl rfl ?_
  refine Z_getR (q := 6) (pc' := 13) dX4_findBest_10 rfl fX4_59 rfl (Or.inl dd_1) (Or.inl rr_1_3) ?_
  refine Z_bipush (pc' := 15) dX4_findBest_13 rfl rfl ?_
  refine Z_iaload (pc' := 16) dX4_findBest_15 rfl (Or.inl dd_6) (Nat.le_of_ble_eq_true rfl) (by decide) (by decide) ?_
  refine Z_callV0 (M' := mX4_prepare) (pc' := 19) (st := []) [.ref 1, vi x2, vi (gI μ 6 0), vi (gI μ 6 7)] dX4_findBest_16 rfl vX4_prepare lX4_47 (Or.inl dd_11) rfl (Nat.le_of_ble_eq_true rfl) (Nat.le_refl 0) (Nat.le_refl 0) ?_
  refine Cl_mono P ?_
  rintro _ μ1 ⟨r2, rfl, P⟩
  show Z SS none mX4_findBest (d + 1) 0 0 (qI Q) 19 [some (.ref 11), some (.ref 1), some (vi x2)] [vi r2] μ1 0 0
  have h3 := P.1
  have P := P.2
  refine Z_if_ne (tgt := 24) (pc' := 22) dX4_findBest_19 (by decide) rfl h3 (fun c4 => ?_) (fun c4 => ?_)
  · have P := P.2 c4
    refine Z_aload_n (pc' := 25) dX4_findBest_24 rfl rfl ?_
    refine Z_ldc (pc' := 27) (z := 2147483647) dX4_findBest_25 rfl kX4_66 rfl ?_
    refine Z_iconst (pc' := 28) dX4_findBest_27 rfl ?_
    refine Z_callV0 (M' := mX4_run) (pc' := 31) (st := []) [vi 2147483647, vi 1] dX4_findBest_28 rfl vX4_run lX4_51 (Or.inl dd_11) rfl (Nat.le_of_ble_eq_true rfl) (Nat.le_refl 0) (Nat.le_refl 0) ?_
    refine Cl_mono P ?_
    rintro _ μ5 ⟨rfl, P⟩
    show Z SS none mX4_findBest (d + 1) 0 0 (qI Q) 31 [some (.ref 11), some (.ref 1), some (vi x2)] [] μ5 0 0
    refine Z_aload_n (pc' := 32) dX4_findBest_31 rfl rfl ?_
    refine Z_getI' (ji := 12) (pc' := 35) dX4_findBest_32 rfl rfl fX4_55 rfl (Or.inl dd_11) ?_
    have K : ∀ t8 : Int, t8 = (if (gI μ5 11 12) ≤ 0 then (-1) else (gI μ5 11 17)) → Z SS none mX4_findBest (d + 1) 0 0 (qI Q) 46 [some (.ref 11), some (.ref 1), some (vi x2)] [vi t8] μ5 0 0 := by
      rintro _ rfl
      have P := P.2
      exact Z_ireturn dX4_findBest_46 rfl (Nat.le_refl 0) (Nat.le_refl 0) P
    have G := P.1
    have h6 := G
    refine Z_if_le (tgt := 45) (pc' := 38) dX4_findBest_35 (by decide) rfl h6 (fun c7 => ?_) (fun c7 => ?_)
    · refine Z_iconst (pc' := 46) dX4_findBest_45 rfl ?_
      exact K _ (by rw [if_pos c7])
    · refine Z_aload_n (pc' := 39) dX4_findBest_38 rfl rfl ?_
      refine Z_getI' (ji := 17) (pc' := 42) dX4_findBest_39 rfl rfl fX4_67 rfl (Or.inl dd_11) ?_
      refine Z_goto (tgt := 46) dX4_findBest_42 (by decide) ?_
      exact K _ (by rw [if_neg c7])
  · have P := P.1 c4
    refine Z_iconst (pc' := 23) dX4_findBest_22 rfl ?_
    exact Z_ireturn dX4_findBest_23 rfl (Nat.le_refl 0) (Nat.le_refl 0) P
abbrev zX4_chainFromBelow_40 (d : Nat) (Q : zMem → Prop) (x3 : Int) (x4 : Int) (x5 : Int) (μ : zMem) : Prop := Z SS none mX4_chainFromBelow (d + 1) 0 0 (qV Q) 40 [some (.ref 11), none, none, some (vi x3), some (vi x4), some (vi x5)] [] μ 0 0
theorem bX4_chainFromBelow {d : Nat} {Q : zMem → Prop} {μ : zMem} {x1 : Int} {x2 : Int} (P : (0 ≤ (x1 + 1)) ∧ (((x1 + 1) < 15) ∧ (((zIn (x1 + 1)) ∧ ((zIn x2) ∧ ((x2 ≤ (x1 + 1) → True) ∧ (¬ (x2 ≤ (x1 + 1)) → ((0 ≤ (x1 + 2)) ∧ (((x1 + 2) < 15))))))) ∧ ((0 ≤ x1) ∧ ((x1 < 15) ∧ (zX4_chainFromBelow_40 d Q (gI μ 24 (x1 + 1)) (if x2 ≤ (x1 + 1) then (gI μ 24 (x1 + 1)) else (gI μ 24 (x1 + 2))) ((gI μ 24 x1) + 1) μ)))))) : kX4_chainFromBelow (d + 1) x1 x2 μ Q := by
  refine Cl_of rfl (Nat.le_of_ble_eq_true rfl) rfl ?_
  show Z SS none mX4_chainFromBelow (d + 1) 0 0 (qV Q) 0 [some (.ref 11), some (vi x1), some (vi x2), none, none, none] [] μ 0 0
  refine Z_aload_n (pc' := 1) dX4_chainFromBelow_0 rfl rfl ?_
  refine Z_getR (q := 24) (pc' := 4) dX4_chainFromBelow_1 rfl fX4_29 rfl (Or.inl dd_11) (Or.inl rr_11_7) ?_
  refine Z_iload_n (pc' := 5) dX4_chainFromBelow_4 rfl rfl ?_
  refine Z_iconst (pc' := 6) dX4_chainFromBelow_5 rfl ?_
  refine Z_iadd (pc' := 7) dX4_chainFromBelow_6 rfl ?_
  have h1 := P.1
  have P := P.2
  have h2 := P.1
  have P := P.2
  refine Z_iaload (pc' := 8) dX4_chainFromBelow_7 rfl (Or.inl dd_24) (Nat.le_of_ble_eq_true rfl) h1 h2 ?_
  refine Z_istore_n (pc' := 9) (lo' := [some (.ref 11), some (vi x1), some (vi x2), some (vi (gI μ 24 (x1 + 1))), none, none]) dX4_chainFromBelow_8 rfl (by decide) rfl ?_
  refine Z_iload_n (pc' := 10) dX4_chainFromBelow_9 rfl rfl ?_
  refine Z_iconst (pc' := 11) dX4_chainFromBelow_10 rfl ?_
  refine Z_iadd (pc' := 12) dX4_chainFromBelow_11 rfl ?_
  refine Z_iload_n (pc' := 13) dX4_chainFromBelow_12 rfl rfl ?_
  have K : ∀ t8 : Int, t8 = (if x2 ≤ (x1 + 1) then (gI μ 24 (x1 + 1)) else (gI μ 24 (x1 + 2))) → Z SS none mX4_chainFromBelow (d + 1) 0 0 (qV Q) 28 [some (.ref 11), some (vi x1), some (vi x2), some (vi (gI μ 24 (x1 + 1))), none, none] [vi t8] μ 0 0 := by
    rintro _ rfl
    have P := P.2
    refine Z_istore (pc' := 30) (lo' := [some (.ref 11), some (vi x1), some (vi x2), some (vi (gI μ 24 (x1 + 1))), some (vi (if x2 ≤ (x1 + 1) then (gI μ 24 (x1 + 1)) else (gI μ 24 (x1 + 2)))), none]) dX4_chainFromBelow_28 rfl (by decide) rfl ?_
    refine Z_aload_n (pc' := 31) dX4_chainFromBelow_30 rfl rfl ?_
    refine Z_getR (q := 24) (pc' := 34) dX4_chainFromBelow_31 rfl fX4_29 rfl (Or.inl dd_11) (Or.inl rr_11_7) ?_
    refine Z_iload_n (pc' := 35) dX4_chainFromBelow_34 rfl rfl ?_
    have h9 := P.1
    have P := P.2
    have h10 := P.1
    have P := P.2
    refine Z_iaload (pc' := 36) dX4_chainFromBelow_35 rfl (Or.inl dd_24) (Nat.le_of_ble_eq_true rfl) h9 h10 ?_
    refine Z_iconst (pc' := 37) dX4_chainFromBelow_36 rfl ?_
    refine Z_iadd (pc' := 38) dX4_chainFromBelow_37 rfl ?_
    refine Z_istore (pc' := 40) (lo' := [some (.ref 11), some (vi x1), some (vi x2), some (vi (gI μ 24 (x1 + 1))), some (vi (if x2 ≤ (x1 + 1) then (gI μ 24 (x1 + 1)) else (gI μ 24 (x1 + 2)))), some (vi ((gI μ 24 x1) + 1))]) dX4_chainFromBelow_38 rfl (by decide) rfl ?_
    refine Z_wk [true, false, false, true, true, true] rfl ?_
    exact P
  have G := P.1
  have h3 := G.1
  have G := G.2
  have h4 := G.1
  have G := G.2
  refine Z_icmp_ge (tgt := 27) (pc' := 16) dX4_chainFromBelow_13 (by decide) rfl h3 h4 (fun c5 => ?_) (fun c5 => ?_)
  · refine Z_iload_n (pc' := 28) dX4_chainFromBelow_27 rfl rfl ?_
    refine Z_wk [true, true, true, true, false, false] rfl ?_
    exact K _ (by rw [if_pos c5])
  · have G := G.2 c5
    refine Z_aload_n (pc' := 17) dX4_chainFromBelow_16 rfl rfl ?_
    refine Z_getR (q := 24) (pc' := 20) dX4_chainFromBelow_17 rfl fX4_29 rfl (Or.inl dd_11) (Or.inl rr_11_7) ?_
    refine Z_iload_n (pc' := 21) dX4_chainFromBelow_20 rfl rfl ?_
    refine Z_iconst (pc' := 22) dX4_chainFromBelow_21 rfl ?_
    refine Z_iadd (pc' := 23) dX4_chainFromBelow_22 rfl ?_
    have h6 := G.1
    have G := G.2
    have h7 := G
    refine Z_iaload (pc' := 24) dX4_chainFromBelow_23 rfl (Or.inl dd_24) (Nat.le_of_ble_eq_true rfl) h6 h7 ?_
    refine Z_goto (tgt := 28) dX4_chainFromBelow_24 (by decide) ?_
    refine Z_wk [true, true, true, true, false, false] rfl ?_
    exact K _ (by rw [if_neg c5])
theorem bX4_chainFromBelow_40 {d : Nat} {Q : zMem → Prop} {μ : zMem} {x3 : Int} {x4 : Int} {x5 : Int} (P : (zIn x5) ∧ ((zIn x3) ∧ ((x3 ≤ x5 → (Q μ)) ∧ (¬ (x3 ≤ x5) → (kX4_longestTouching d x5 x3 x4 28 μ (fun (r5 : Int) (μ4 : zMem) => (0 ≤ x5) ∧ ((x5 < 14) ∧ (zX4_chainFromBelow_40 d Q x3 x4 (x5 + 1) (sI μ4 28 x5 (1 + r5)))))))))) : zX4_chainFromBelow_40 d Q x3 x4 x5 μ := by
  refine Z_iload (pc' := 42) dX4_chainFromBelow_40 rfl rfl ?_
  refine Z_iload_n (pc' := 43) dX4_chainFromBelow_42 rfl rfl ?_
  have h1 := P.1
  have P := P.2
  have h2 := P.1
  have P := P.2
  refine Z_icmp_ge (tgt := 74) (pc' := 46) dX4_chainFromBelow_43 (by decide) rfl h1 h2 (fun c3 => ?_) (fun c3 => ?_)
  · have P := P.1 c3
    exact Z_return dX4_chainFromBelow_74 rfl (Nat.le_refl 0) (Nat.le_refl 0) P
  · have P := P.2 c3
    refine Z_aload_n (pc' := 47) dX4_chainFromBelow_46 rfl rfl ?_
    refine Z_getR (q := 28) (pc' := 50) dX4_chainFromBelow_47 rfl fX4_41 rfl (Or.inl dd_11) (Or.inl rr_11_11) ?_
    refine Z_iload (pc' := 52) dX4_chainFromBelow_50 rfl rfl ?_
    refine Z_iconst (pc' := 53) dX4_chainFromBelow_52 rfl ?_
    refine Z_aload_n (pc' := 54) dX4_chainFromBelow_53 rfl rfl ?_
    refine Z_iload (pc' := 56) dX4_chainFromBelow_54 rfl rfl ?_
    refine Z_iload_n (pc' := 57) dX4_chainFromBelow_56 rfl rfl ?_
    refine Z_iload (pc' := 59) dX4_chainFromBelow_57 rfl rfl ?_
    refine Z_aload_n (pc' := 60) dX4_chainFromBelow_59 rfl rfl ?_
    refine Z_getR (q := 28) (pc' := 63) dX4_chainFromBelow_60 rfl fX4_41 rfl (Or.inl dd_11) (Or.inl rr_11_11) ?_
    refine Z_callV0 (M' := mX4_longestTouching) (pc' := 66) (st := [vi 1, vi x5, .ref 28]) [vi x5, vi x3, vi x4, .ref 28] dX4_chainFromBelow_63 rfl vX4_longestTouching lX4_173 (Or.inl dd_11) rfl (Nat.le_of_ble_eq_true rfl) (Nat.le_refl 0) (Nat.le_refl 0) ?_
    refine Cl_mono P ?_
    rintro _ μ4 ⟨r5, rfl, P⟩
    show Z SS none mX4_chainFromBelow (d + 1) 0 0 (qV Q) 66 [some (.ref 11), none, none, some (vi x3), some (vi x4), some (vi x5)] [vi r5, vi 1, vi x5, .ref 28] μ4 0 0
    refine Z_iadd (pc' := 67) dX4_chainFromBelow_66 rfl ?_
    have h6 := P.1
    have P := P.2
    have h7 := P.1
    have P := P.2
    refine Z_iastore (pc' := 68) dX4_chainFromBelow_67 rfl (Or.inl dd_28) (Nat.le_of_ble_eq_true rfl) h6 h7 ?_
    refine Z_iinc (pc' := 71) (lo' := [some (.ref 11), none, none, some (vi x3), some (vi x4), some (vi (x5 + 1))]) dX4_chainFromBelow_68 rfl (by decide) rfl rfl ?_
    refine Z_goto (tgt := 40) dX4_chainFromBelow_71 (by decide) ?_
    exact P
theorem bX4_describeLine {d : Nat} {Q : zMem → Prop} {μ : zMem} {p1 : Nat} {x2 : Int} {x3 : Int} (P : (0 ≤ x2) ∧ ((x2 < 15) ∧ ((0 ≤ (x2 + 1)) ∧ (((x2 + 1) < 15) ∧ (kX3_heightOf d (gI μ 24 x2) (gI μ 24 (x2 + 1)) μ (fun (r6 : Int) (μ5 : zMem) => kX4_slackOf d (gI μ 24 x2) (gI μ 24 (x2 + 1)) x3 μ5 (fun (r8 : Int) (μ7 : zMem) => kX4_placeWords d (gI μ 24 x2) (gI μ 24 (x2 + 1)) x3 r8 μ7 (fun μ9 : zMem => ((gD μ9)[p1]? = some (2, 0)) ∧ ((gR μ9 p1 3 = some (p1 + 2)) ∧ ((zA μ9 (p1 + 2) (x2 * 7)) ∧ ((zA μ9 (p1 + 2) ((x2 * 7) + 1)) ∧ ((zA μ9 (p1 + 2) ((x2 * 7) + 2)) ∧ ((zA μ9 (p1 + 2) ((x2 * 7) + 3)) ∧ (kX3_widthOf d (gI μ 24 x2) (gI μ 24 (x2 + 1)) (sI (sI (sI (sI μ9 (p1 + 2) (x2 * 7) (gI μ 24 x2)) (p1 + 2) ((x2 * 7) + 1) ((gI μ 24 (x2 + 1)) - (gI μ 24 x2))) (p1 + 2) ((x2 * 7) + 2) x3) (p1 + 2) ((x2 * 7) + 3) r6) (fun (r17 : Int) (μ16 : zMem) => (zA μ16 (p1 + 2) ((x2 * 7) + 4)) ∧ (((gD μ16)[p1]? = some (2, 0)) ∧ ((gR μ16 p1 3 = some (p1 + 2)) ∧ (kX0_firstOf d x3 r6 (sI μ16 (p1 + 2) ((x2 * 7) + 4) r17) (fun (r22 : Int) (μ21 : zMem) => (zA μ21 (p1 + 2) ((x2 * 7) + 5)) ∧ (((gD μ21)[p1]? = some (2, 0)) ∧ ((gR μ21 p1 3 = some (p1 + 2)) ∧ ((zA μ21 (p1 + 2) ((x2 * 7) + 6)) ∧ (Q (sI (sI μ21 (p1 + 2) ((x2 * 7) + 5) r22) (p1 + 2) ((x2 * 7) + 6) r8)))))))))))))))))))))))) : kX4_describeLine (d + 1) p1 x2 x3 μ Q := by
  refine Cl_of rfl (Nat.le_of_ble_eq_true rfl) rfl ?_
  show Z SS none mX4_describeLine (d + 1) 0 0 (qV Q) 0 [some (.ref 11), some (.ref p1), some (vi x2), some (vi x3), none, none, none, none, none] [] μ 0 0
  refine Z_aload_n (pc' := 1) dX4_describeLine_0 rfl rfl ?_
  refine Z_getR (q := 24) (pc' := 4) dX4_describeLine_1 rfl fX4_29 rfl (Or.inl dd_11) (Or.inl rr_11_7) ?_
  refine Z_iload_n (pc' := 5) dX4_describeLine_4 rfl rfl ?_
  have h1 := P.1
  have P := P.2
  have h2 := P.1
  have P := P.2
  refine Z_iaload (pc' := 6) dX4_describeLine_5 rfl (Or.inl dd_24) (Nat.le_of_ble_eq_true rfl) h1 h2 ?_
  refine Z_istore (pc' := 8) (lo' := [some (.ref 11), some (.ref p1), some (vi x2), some (vi x3), some (vi (gI μ 24 x2)), none, none, none, none]) dX4_describeLine_6 rfl (by decide) rfl ?_
  refine Z_aload_n (pc' := 9) dX4_describeLine_8 rfl rfl ?_
  refine Z_getR (q := 24) (pc' := 12) dX4_describeLine_9 rfl fX4_29 rfl (Or.inl dd_11) (Or.inl rr_11_7) ?_
  refine Z_iload_n (pc' := 13) dX4_describeLine_12 rfl rfl ?_
  refine Z_iconst (pc' := 14) dX4_describeLine_13 rfl ?_
  refine Z_iadd (pc' := 15) dX4_describeLine_14 rfl ?_
  have h3 := P.1
  have P := P.2
  have h4 := P.1
  have P := P.2
  refine Z_iaload (pc' := 16) dX4_describeLine_15 rfl (Or.inl dd_24) (Nat.le_of_ble_eq_true rfl) h3 h4 ?_
  refine Z_istore (pc' := 18) (lo' := [some (.ref 11), some (.ref p1), some (vi x2), some (vi x3), some (vi (gI μ 24 x2)), some (vi (gI μ 24 (x2 + 1))), none, none, none]) dX4_describeLine_16 rfl (by decide) rfl ?_
  refine Z_aload_n (pc' := 19) dX4_describeLine_18 rfl rfl ?_
  refine Z_getR (q := 16) (pc' := 22) dX4_describeLine_19 rfl fX4_21 rfl (Or.inl dd_11) (Or.inl rr_11_1) ?_
  refine Z_iload (pc' := 24) dX4_describeLine_22 rfl rfl ?_
  refine Z_iload (pc' := 26) dX4_describeLine_24 rfl rfl ?_
  refine Z_callV0 (M' := mX3_heightOf) (pc' := 29) (st := []) [vi (gI μ 24 x2), vi (gI μ 24 (x2 + 1))] dX4_describeLine_26 rfl vX3_heightOf lX4_131 (Or.inl dd_16) rfl (Nat.le_of_ble_eq_true rfl) (Nat.le_refl 0) (Nat.le_refl 0) ?_
  refine Cl_mono P ?_
  rintro _ μ5 ⟨r6, rfl, P⟩
  show Z SS none mX4_describeLine (d + 1) 0 0 (qV Q) 29 [some (.ref 11), some (.ref p1), some (vi x2), some (vi x3), some (vi (gI μ 24 x2)), some (vi (gI μ 24 (x2 + 1))), none, none, none] [vi r6] μ5 0 0
  refine Z_istore (pc' := 31) (lo' := [some (.ref 11), some (.ref p1), some (vi x2), some (vi x3), some (vi (gI μ 24 x2)), some (vi (gI μ 24 (x2 + 1))), some (vi r6), none, none]) dX4_describeLine_29 rfl (by decide) rfl ?_
  refine Z_aload_n (pc' := 32) dX4_describeLine_31 rfl rfl ?_
  refine Z_iload (pc' := 34) dX4_describeLine_32 rfl rfl ?_
  refine Z_iload (pc' := 36) dX4_describeLine_34 rfl rfl ?_
  refine Z_iload_n (pc' := 37) dX4_describeLine_36 rfl rfl ?_
  refine Z_callV0 (M' := mX4_slackOf) (pc' := 40) (st := []) [vi (gI μ 24 x2), vi (gI μ 24 (x2 + 1)), vi x3] dX4_describeLine_37 rfl vX4_slackOf lX4_124 (Or.inl dd_11) rfl (Nat.le_of_ble_eq_true rfl) (Nat.le_refl 0) (Nat.le_refl 0) ?_
  refine Cl_mono P ?_
  rintro _ μ7 ⟨r8, rfl, P⟩
  show Z SS none mX4_describeLine (d + 1) 0 0 (qV Q) 40 [some (.ref 11), some (.ref p1), some (vi x2), some (vi x3), some (vi (gI μ 24 x2)), some (vi (gI μ 24 (x2 + 1))), some (vi r6), none, none] [vi r8] μ7 0 0
  refine Z_istore (pc' := 42) (lo' := [some (.ref 11), some (.ref p1), some (vi x2), some (vi x3), some (vi (gI μ 24 x2)), some (vi (gI μ 24 (x2 + 1))), some (vi r6), some (vi r8), none]) dX4_describeLine_40 rfl (by decide) rfl ?_
  refine Z_aload_n (pc' := 43) dX4_describeLine_42 rfl rfl ?_
  refine Z_iload (pc' := 45) dX4_describeLine_43 rfl rfl ?_
  refine Z_iload (pc' := 47) dX4_describeLine_45 rfl rfl ?_
  refine Z_iload_n (pc' := 48) dX4_describeLine_47 rfl rfl ?_
  refine Z_iload (pc' := 50) dX4_describeLine_48 rfl rfl ?_
  refine Z_callV0 (M' := mX4_placeWords) (pc' := 53) (st := []) [vi (gI μ 24 x2), vi (gI μ 24 (x2 + 1)), vi x3, vi r8] dX4_describeLine_50 rfl vX4_placeWords lX4_148 (Or.inl dd_11) rfl (Nat.le_of_ble_eq_true rfl) (Nat.le_refl 0) (Nat.le_refl 0) ?_
  refine Cl_mono P ?_
  rintro _ μ9 ⟨rfl, P⟩
  show Z SS none mX4_describeLine (d + 1) 0 0 (qV Q) 53 [some (.ref 11), some (.ref p1), some (vi x2), some (vi x3), some (vi (gI μ 24 x2)), some (vi (gI μ 24 (x2 + 1))), some (vi r6), some (vi r8), none] [] μ9 0 0
  refine Z_iload_n (pc' := 54) dX4_describeLine_53 rfl rfl ?_
  refine Z_bipush (pc' := 56) dX4_describeLine_54 rfl rfl ?_
  refine Z_imul (pc' := 57) dX4_describeLine_56 rfl ?_
  refine Z_istore (pc' := 59) (lo' := [some (.ref 11), some (.ref p1), some (vi x2), some (vi x3), some (vi (gI μ 24 x2)), some (vi (gI μ 24 (x2 + 1))), some (vi r6), some (vi r8), some (vi (x2 * 7))]) dX4_describeLine_57 rfl (by decide) rfl ?_
  refine Z_aload_n (pc' := 60) dX4_describeLine_59 rfl rfl ?_
  have h10 := P.1
  have P := P.2
  have h11 := P.1
  have P := P.2
  refine Z_getR (q := p1 + 2) (pc' := 63) dX4_describeLine_60 rfl fX4_200 rfl (Or.inr h10) (Or.inr h11) ?_
  refine Z_iload (pc' := 65) dX4_describeLine_63 rfl rfl ?_
  refine Z_iload (pc' := 67) dX4_describeLine_65 rfl rfl ?_
  have h12 := P.1
  have P := P.2
  refine Z_iastoreA (pc' := 68) dX4_describeLine_67 rfl h12 ?_
  refine Z_aload_n (pc' := 69) dX4_describeLine_68 rfl rfl ?_
  refine Z_getR (q := p1 + 2) (pc' := 72) dX4_describeLine_69 rfl fX4_200 rfl (Or.inr h10) (Or.inr h11) ?_
  refine Z_iload (pc' := 74) dX4_describeLine_72 rfl rfl ?_
  refine Z_iconst (pc' := 75) dX4_describeLine_74 rfl ?_
  refine Z_iadd (pc' := 76) dX4_describeLine_75 rfl ?_
  refine Z_iload (pc' := 78) dX4_describeLine_76 rfl rfl ?_
  refine Z_iload (pc' := 80) dX4_describeLine_78 rfl rfl ?_
  refine Z_isub (pc' := 81) dX4_describeLine_80 rfl ?_
  have h13 := P.1
  have P := P.2
  refine Z_iastoreA (pc' := 82) dX4_describeLine_81 rfl h13 ?_
  refine Z_aload_n (pc' := 83) dX4_describeLine_82 rfl rfl ?_
  refine Z_getR (q := p1 + 2) (pc' := 86) dX4_describeLine_83 rfl fX4_200 rfl (Or.inr h10) (Or.inr h11) ?_
  refine Z_iload (pc' := 88) dX4_describeLine_86 rfl rfl ?_
  refine Z_iconst (pc' := 89) dX4_describeLine_88 rfl ?_
  refine Z_iadd (pc' := 90) dX4_describeLine_89 rfl ?_
  refine Z_iload_n (pc' := 91) dX4_describeLine_90 rfl rfl ?_
  have h14 := P.1
  have P := P.2
  refine Z_iastoreA (pc' := 92) dX4_describeLine_91 rfl h14 ?_
  refine Z_aload_n (pc' := 93) dX4_describeLine_92 rfl rfl ?_
  refine Z_getR (q := p1 + 2) (pc' := 96) dX4_describeLine_93 rfl fX4_200 rfl (Or.inr h10) (Or.inr h11) ?_
  refine Z_iload (pc' := 98) dX4_describeLine_96 rfl rfl ?_
  refine Z_iconst (pc' := 99) dX4_describeLine_98 rfl ?_
  refine Z_iadd (pc' := 100) dX4_describeLine_99 rfl ?_
  refine Z_iload (pc' := 102) dX4_describeLine_100 rfl rfl ?_
  have h15 := P.1
  have P := P.2
  refine Z_iastoreA (pc' := 103) dX4_describeLine_102 rfl h15 ?_
  refine Z_aload_n (pc' := 104) dX4_describeLine_103 rfl rfl ?_
  refine Z_getR (q := p1 + 2) (pc' := 107) dX4_describeLine_104 rfl fX4_200 rfl (Or.inr h10) (Or.inr h11) ?_
  refine Z_iload (pc' := 109) dX4_describeLine_107 rfl rfl ?_
  refine Z_iconst (pc' := 110) dX4_describeLine_109 rfl ?_
  refine Z_iadd (pc' := 111) dX4_describeLine_110 rfl ?_
  refine Z_aload_n (pc' := 112) dX4_describeLine_111 rfl rfl ?_
  refine Z_getR (q := 16) (pc' := 115) dX4_describeLine_112 rfl fX4_21 rfl (Or.inl dd_11) (Or.inl rr_11_1) ?_
  refine Z_iload (pc' := 117) dX4_describeLine_115 rfl rfl ?_
  refine Z_iload (pc' := 119) dX4_describeLine_117 rfl rfl ?_
  refine Z_callV0 (M' := mX3_widthOf) (pc' := 122) (st := [vi ((x2 * 7) + 4), .ref (p1 + 2)]) [vi (gI μ 24 x2), vi (gI μ 24 (x2 + 1))] dX4_describeLine_119 rfl vX3_widthOf lX4_137 (Or.inl dd_16) rfl (Nat.le_of_ble_eq_true rfl) (Nat.le_refl 0) (Nat.le_refl 0) ?_
  refine Cl_mono P ?_
  rintro _ μ16 ⟨r17, rfl, P⟩
  show Z SS none mX4_describeLine (d + 1) 0 0 (qV Q) 122 [some (.ref 11), some (.ref p1), some (vi x2), some (vi x3), some (vi (gI μ 24 x2)), some (vi (gI μ 24 (x2 + 1))), some (vi r6), some (vi r8), some (vi (x2 * 7))] [vi r17, vi ((x2 * 7) + 4), .ref (p1 + 2)] μ16 0 0
  have h18 := P.1
  have P := P.2
  refine Z_iastoreA (pc' := 123) dX4_describeLine_122 rfl h18 ?_
  refine Z_aload_n (pc' := 124) dX4_describeLine_123 rfl rfl ?_
  have h19 := P.1
  have P := P.2
  have h20 := P.1
  have P := P.2
  refine Z_getR (q := p1 + 2) (pc' := 127) dX4_describeLine_124 rfl fX4_200 rfl (Or.inr h19) (Or.inr h20) ?_
  refine Z_iload (pc' := 129) dX4_describeLine_127 rfl rfl ?_
  refine Z_iconst (pc' := 130) dX4_describeLine_129 rfl ?_
  refine Z_iadd (pc' := 131) dX4_describeLine_130 rfl ?_
  refine Z_aload_n (pc' := 132) dX4_describeLine_131 rfl rfl ?_
  refine Z_getR (q := 12) (pc' := 135) dX4_describeLine_132 rfl fX4_12 rfl (Or.inl dd_11) (Or.inl rr_11_0) ?_
  refine Z_iload_n (pc' := 136) dX4_describeLine_135 rfl rfl ?_
  refine Z_iload (pc' := 138) dX4_describeLine_136 rfl rfl ?_
  refine Z_callV0 (M' := mX0_firstOf) (pc' := 141) (st := [vi ((x2 * 7) + 5), .ref (p1 + 2)]) [vi x3, vi r6] dX4_describeLine_138 rfl vX0_firstOf lX4_164 (Or.inl dd_12) rfl (Nat.le_of_ble_eq_true rfl) (Nat.le_refl 0) (Nat.le_refl 0) ?_
  refine Cl_mono P ?_
  rintro _ μ21 ⟨r22, rfl, P⟩
  show Z SS none mX4_describeLine (d + 1) 0 0 (qV Q) 141 [some (.ref 11), some (.ref p1), some (vi x2), some (vi x3), some (vi (gI μ 24 x2)), some (vi (gI μ 24 (x2 + 1))), some (vi r6), some (vi r8), some (vi (x2 * 7))] [vi r22, vi ((x2 * 7) + 5), .ref (p1 + 2)] μ21 0 0
  have h23 := P.1
  have P := P.2
  refine Z_iastoreA (pc' := 142) dX4_describeLine_141 rfl h23 ?_
  refine Z_aload_n (pc' := 143) dX4_describeLine_142 rfl rfl ?_
  have h24 := P.1
  have P := P.2
  have h25 := P.1
  have P := P.2
  refine Z_getR (q := p1 + 2) (pc' := 146) dX4_describeLine_143 rfl fX4_200 rfl (Or.inr h24) (Or.inr h25) ?_
  refine Z_iload (pc' := 148) dX4_describeLine_146 rfl rfl ?_
  refine Z_bipush (pc' := 150) dX4_describeLine_148 rfl rfl ?_
  refine Z_iadd (pc' := 151) dX4_describeLine_150 rfl ?_
  refine Z_iload (pc' := 153) dX4_describeLine_151 rfl rfl ?_
  have h26 := P.1
  have P := P.2
  refine Z_iastoreA (pc' := 154) dX4_describeLine_153 rfl h26 ?_
  exact Z_return dX4_describeLine_154 rfl (Nat.le_refl 0) (Nat.le_refl 0) P
abbrev zX4_describeWords_7 (d : Nat) (Q : zMem → Prop) (p1 : Nat) (x2 : Int) (x3 : Int) (μ : zMem) : Prop := Z SS none mX4_describeWords d 0 0 (qV Q) 7 [some (.ref 11), some (.ref p1), some (vi x2), some (vi x3), none] [] μ 0 0
theorem bX4_describeWords {d : Nat} {Q : zMem → Prop} {μ : zMem} {p1 : Nat} {x2 : Int} (P : (0 ≤ x2) ∧ ((x2 < 15) ∧ (zX4_describeWords_7 d Q p1 x2 (gI μ 24 x2) μ))) : kX4_describeWords d p1 x2 μ Q := by
  refine Cl_of rfl (Nat.le_of_ble_eq_true rfl) rfl ?_
  show Z SS none mX4_describeWords d 0 0 (qV Q) 0 [some (.ref 11), some (.ref p1), some (vi x2), none, none] [] μ 0 0
  refine Z_aload_n (pc' := 1) dX4_describeWords_0 rfl rfl ?_
  refine Z_getR (q := 24) (pc' := 4) dX4_describeWords_1 rfl fX4_29 rfl (Or.inl dd_11) (Or.inl rr_11_7) ?_
  refine Z_iload_n (pc' := 5) dX4_describeWords_4 rfl rfl ?_
  have h1 := P.1
  have P := P.2
  have h2 := P.1
  have P := P.2
  refine Z_iaload (pc' := 6) dX4_describeWords_5 rfl (Or.inl dd_24) (Nat.le_of_ble_eq_true rfl) h1 h2 ?_
  refine Z_istore_n (pc' := 7) (lo' := [some (.ref 11), some (.ref p1), some (vi x2), some (vi (gI μ 24 x2)), none]) dX4_describeWords_6 rfl (by decide) rfl ?_
  exact P
theorem bX4_describeWords_7 {d : Nat} {Q : zMem → Prop} {μ : zMem} {p1 : Nat} {x2 : Int} {x3 : Int} (P : (0 ≤ (x2 + 1)) ∧ (((x2 + 1) < 15) ∧ ((zIn x3) ∧ ((zIn (gI μ 24 (x2 + 1))) ∧ (((gI μ 24 (x2 + 1)) ≤ x3 → (Q μ)) ∧ (¬ ((gI μ 24 (x2 + 1)) ≤ x3) → (((gD μ)[p1]? = some (2, 0)) ∧ ((gR μ p1 4 = some (p1 + 3)) ∧ ((0 ≤ x3) ∧ ((x3 < 14) ∧ ((zA μ (p1 + 3) (x3 * 5)) ∧ ((zA μ (p1 + 3) ((x3 * 5) + 1)) ∧ ((zA μ (p1 + 3) ((x3 * 5) + 2)) ∧ ((zA μ (p1 + 3) ((x3 * 5) + 3)) ∧ ((0 ≤ x2) ∧ ((x2 < 15) ∧ (((zIn (gI (sI (sI (sI (sI μ (p1 + 3) (x3 * 5) (gI μ 25 x3)) (p1 + 3) ((x3 * 5) + 1) (gI (sI μ (p1 + 3) (x3 * 5) (gI μ 25 x3)) 18 x3)) (p1 + 3) ((x3 * 5) + 2) (gI (sI (sI μ (p1 + 3) (x3 * 5) (gI μ 25 x3)) (p1 + 3) ((x3 * 5) + 1) (gI (sI μ (p1 + 3) (x3 * 5) (gI μ 25 x3)) 18 x3)) 17 x3)) (p1 + 3) ((x3 * 5) + 3) x2) 24 x2))) ∧ ((zA μ (p1 + 3) ((x3 * 5) + 4)) ∧ (zX4_describeWords_7 d Q p1 x2 (x3 + 1) (sI (sI (sI (sI (sI μ (p1 + 3) (x3 * 5) (gI μ 25 x3)) (p1 + 3) ((x3 * 5) + 1) (gI (sI μ (p1 + 3) (x3 * 5) (gI μ 25 x3)) 18 x3)) (p1 + 3) ((x3 * 5) + 2) (gI (sI (sI μ (p1 + 3) (x3 * 5) (gI μ 25 x3)) (p1 + 3) ((x3 * 5) + 1) (gI (sI μ (p1 + 3) (x3 * 5) (gI μ 25 x3)) 18 x3)) 17 x3)) (p1 + 3) ((x3 * 5) + 3) x2) (p1 + 3) ((x3 * 5) + 4) (if x3 ≤ (gI (sI (sI (sI (sI μ (p1 + 3) (x3 * 5) (gI μ 25 x3)) (p1 + 3) ((x3 * 5) + 1) (gI (sI μ (p1 + 3) (x3 * 5) (gI μ 25 x3)) 18 x3)) (p1 + 3) ((x3 * 5) + 2) (gI (sI (sI μ (p1 + 3) (x3 * 5) (gI μ 25 x3)) (p1 + 3) ((x3 * 5) + 1) (gI (sI μ (p1 + 3) (x3 * 5) (gI μ 25 x3)) 18 x3)) 17 x3)) (p1 + 3) ((x3 * 5) + 3) x2) 24 x2) then 0 else (((gI (sI (sI (sI (sI μ (p1 + 3) (x3 * 5) (gI μ 25 x3)) (p1 + 3) ((x3 * 5) + 1) (gI (sI μ (p1 + 3) (x3 * 5) (gI μ 25 x3)) 18 x3)) (p1 + 3) ((x3 * 5) + 2) (gI (sI (sI μ (p1 + 3) (x3 * 5) (gI μ 25 x3)) (p1 + 3) ((x3 * 5) + 1) (gI (sI μ (p1 + 3) (x3 * 5) (gI μ 25 x3)) 18 x3)) 17 x3)) (p1 + 3) ((x3 * 5) + 3) x2) 27 x3) + (gI (sI (sI (sI (sI μ (p1 + 3) (x3 * 5) (gI μ 25 x3)) (p1 + 3) ((x3 * 5) + 1) (gI (sI μ (p1 + 3) (x3 * 5) (gI μ 25 x3)) 18 x3)) (p1 + 3) ((x3 * 5) + 2) (gI (sI (sI μ (p1 + 3) (x3 * 5) (gI μ 25 x3)) (p1 + 3) ((x3 * 5) + 1) (gI (sI μ (p1 + 3) (x3 * 5) (gI μ 25 x3)) 18 x3)) 17 x3)) (p1 + 3) ((x3 * 5) + 3) x2) 28 x3)) - 1)))))))))))))))))))))) : zX4_describeWords_7 d Q p1 x2 x3 μ := by
  refine Z_iload_n (pc' := 8) dX4_describeWords_7 rfl rfl ?_
  refine Z_aload_n (pc' := 9) dX4_describeWords_8 rfl rfl ?_
  refine Z_getR (q := 24) (pc' := 12) dX4_describeWords_9 rfl fX4_29 rfl (Or.inl dd_11) (Or.inl rr_11_7) ?_
  refine Z_iload_n (pc' := 13) dX4_describeWords_12 rfl rfl ?_
  refine Z_iconst (pc' := 14) dX4_describeWords_13 rfl ?_
  refine Z_iadd (pc' := 15) dX4_describeWords_14 rfl ?_
  have h1 := P.1
  have P := P.2
  have h2 := P.1
  have P := P.2
  refine Z_iaload (pc' := 16) dX4_describeWords_15 rfl (Or.inl dd_24) (Nat.le_of_ble_eq_true rfl) h1 h2 ?_
  have h3 := P.1
  have P := P.2
  have h4 := P.1
  have P := P.2
  refine Z_icmp_ge (tgt := 127) (pc' := 19) dX4_describeWords_16 (by decide) rfl h3 h4 (fun c5 => ?_) (fun c5 => ?_)
  · have P := P.1 c5
    exact Z_return dX4_describeWords_127 rfl (Nat.le_refl 0) (Nat.le_refl 0) P
  · have P := P.2 c5
    refine Z_iload_n (pc' := 20) dX4_describeWords_19 rfl rfl ?_
    refine Z_iconst (pc' := 21) dX4_describeWords_20 rfl ?_
    refine Z_imul (pc' := 22) dX4_describeWords_21 rfl ?_
    refine Z_istore (pc' := 24) (lo' := [some (.ref 11), some (.ref p1), some (vi x2), some (vi x3), some (vi (x3 * 5))]) dX4_describeWords_22 rfl (by decide) rfl ?_
    refine Z_aload_n (pc' := 25) dX4_describeWords_24 rfl rfl ?_
    have h6 := P.1
    have P := P.2
    have h7 := P.1
    have P := P.2
    refine Z_getR (q := p1 + 3) (pc' := 28) dX4_describeWords_25 rfl fX4_203 rfl (Or.inr h6) (Or.inr h7) ?_
    refine Z_iload (pc' := 30) dX4_describeWords_28 rfl rfl ?_
    refine Z_aload_n (pc' := 31) dX4_describeWords_30 rfl rfl ?_
    refine Z_getR (q := 25) (pc' := 34) dX4_describeWords_31 rfl fX4_32 rfl (Or.inl dd_11) (Or.inl rr_11_8) ?_
    refine Z_iload_n (pc' := 35) dX4_describeWords_34 rfl rfl ?_
    have h8 := P.1
    have P := P.2
    have h9 := P.1
    have P := P.2
    refine Z_iaload (pc' := 36) dX4_describeWords_35 rfl (Or.inl dd_25) (Nat.le_of_ble_eq_true rfl) h8 h9 ?_
    have h10 := P.1
    have P := P.2
    refine Z_iastoreA (pc' := 37) dX4_describeWords_36 rfl h10 ?_
    refine Z_aload_n (pc' := 38) dX4_describeWords_37 rfl rfl ?_
    refine Z_getR (q := p1 + 3) (pc' := 41) dX4_describeWords_38 rfl fX4_203 rfl (Or.inr h6) (Or.inr h7) ?_
    refine Z_iload (pc' := 43) dX4_describeWords_41 rfl rfl ?_
    refine Z_iconst (pc' := 44) dX4_describeWords_43 rfl ?_
    refine Z_iadd (pc' := 45) dX4_describeWords_44 rfl ?_
    refine Z_aload_n (pc' := 46) dX4_describeWords_45 rfl rfl ?_
    refine Z_getR (q := 16) (pc' := 49) dX4_describeWords_46 rfl fX4_21 rfl (Or.inl dd_11) (Or.inl rr_11_1) ?_
    refine Z_getR (q := 18) (pc' := 52) dX4_describeWords_49 rfl fX4_167 rfl (Or.inl dd_16) (Or.inl rr_16_2) ?_
    refine Z_iload_n (pc' := 53) dX4_describeWords_52 rfl rfl ?_
    refine Z_iaload (pc' := 54) dX4_describeWords_53 rfl (Or.inl dd_18) (Nat.le_of_ble_eq_true rfl) h8 h9 ?_
    have h11 := P.1
    have P := P.2
    refine Z_iastoreA (pc' := 55) dX4_describeWords_54 rfl h11 ?_
    refine Z_aload_n (pc' := 56) dX4_describeWords_55 rfl rfl ?_
    refine Z_getR (q := p1 + 3) (pc' := 59) dX4_describeWords_56 rfl fX4_203 rfl (Or.inr h6) (Or.inr h7) ?_
    refine Z_iload (pc' := 61) dX4_describeWords_59 rfl rfl ?_
    refine Z_iconst (pc' := 62) dX4_describeWords_61 rfl ?_
    refine Z_iadd (pc' := 63) dX4_describeWords_62 rfl ?_
    refine Z_aload_n (pc' := 64) dX4_describeWords_63 rfl rfl ?_
    refine Z_getR (q := 16) (pc' := 67) dX4_describeWords_64 rfl fX4_21 rfl (Or.inl dd_11) (Or.inl rr_11_1) ?_
    refine Z_getR (q := 17) (pc' := 70) dX4_describeWords_67 rfl fX4_93 rfl (Or.inl dd_16) (Or.inl rr_16_1) ?_
    refine Z_iload_n (pc' := 71) dX4_describeWords_70 rfl rfl ?_
    refine Z_iaload (pc' := 72) dX4_describeWords_71 rfl (Or.inl dd_17) (Nat.le_of_ble_eq_true rfl) h8 h9 ?_
    have h12 := P.1
    have P := P.2
    refine Z_iastoreA (pc' := 73) dX4_describeWords_72 rfl h12 ?_
    refine Z_aload_n (pc' := 74) dX4_describeWords_73 rfl rfl ?_
    refine Z_getR (q := p1 + 3) (pc' := 77) dX4_describeWords_74 rfl fX4_203 rfl (Or.inr h6) (Or.inr h7) ?_
    refine Z_iload (pc' := 79) dX4_describeWords_77 rfl rfl ?_
    refine Z_iconst (pc' := 80) dX4_describeWords_79 rfl ?_
    refine Z_iadd (pc' := 81) dX4_describeWords_80 rfl ?_
    refine Z_iload_n (pc' := 82) dX4_describeWords_81 rfl rfl ?_
    have h13 := P.1
    have P := P.2
    refine Z_iastoreA (pc' := 83) dX4_describeWords_82 rfl h13 ?_
    refine Z_aload_n (pc' := 84) dX4_describeWords_83 rfl rfl ?_
    refine Z_getR (q := p1 + 3) (pc' := 87) dX4_describeWords_84 rfl fX4_203 rfl (Or.inr h6) (Or.inr h7) ?_
    refine Z_iload (pc' := 89) dX4_describeWords_87 rfl rfl ?_
    refine Z_iconst (pc' := 90) dX4_describeWords_89 rfl ?_
    refine Z_iadd (pc' := 91) dX4_describeWords_90 rfl ?_
    refine Z_iload_n (pc' := 92) dX4_describeWords_91 rfl rfl ?_
    refine Z_aload_n (pc' := 93) dX4_describeWords_92 rfl rfl ?_
    refine Z_getR (q := 24) (pc' := 96) dX4_describeWords_93 rfl fX4_29 rfl (Or.inl dd_11) (Or.inl rr_11_7) ?_
    refine Z_iload_n (pc' := 97) dX4_describeWords_96 rfl rfl ?_
    have h14 := P.1
    have P := P.2
    have h15 := P.1
    have P := P.2
    refine Z_iaload (pc' := 98) dX4_describeWords_97 rfl (Or.inl dd_24) (Nat.le_of_ble_eq_true rfl) h14 h15 ?_
    have K : ∀ t18 : Int, t18 = (if x3 ≤ (gI (sI (sI (sI (sI μ (p1 + 3) (x3 * 5) (gI μ 25 x3)) (p1 + 3) ((x3 * 5) + 1) (gI (sI μ (p1 + 3) (x3 * 5) (gI μ 25 x3)) 18 x3)) (p1 + 3) ((x3 * 5) + 2) (gI (sI (sI μ (p1 + 3) (x3 * 5) (gI μ 25 x3)) (p1 + 3) ((x3 * 5) + 1) (gI (sI μ (p1 + 3) (x3 * 5) (gI μ 25 x3)) 18 x3)) 17 x3)) (p1 + 3) ((x3 * 5) + 3) x2) 24 x2) then 0 else (((gI (sI (sI (sI (sI μ (p1 + 3) (x3 * 5) (gI μ 25 x3)) (p1 + 3) ((x3 * 5) + 1) (gI (sI μ (p1 + 3) (x3 * 5) (gI μ 25 x3)) 18 x3)) (p1 + 3) ((x3 * 5) + 2) (gI (sI (sI μ (p1 + 3) (x3 * 5) (gI μ 25 x3)) (p1 + 3) ((x3 * 5) + 1) (gI (sI μ (p1 + 3) (x3 * 5) (gI μ 25 x3)) 18 x3)) 17 x3)) (p1 + 3) ((x3 * 5) + 3) x2) 27 x3) + (gI (sI (sI (sI (sI μ (p1 + 3) (x3 * 5) (gI μ 25 x3)) (p1 + 3) ((x3 * 5) + 1) (gI (sI μ (p1 + 3) (x3 * 5) (gI μ 25 x3)) 18 x3)) (p1 + 3) ((x3 * 5) + 2) (gI (sI (sI μ (p1 + 3) (x3 * 5) (gI μ 25 x3)) (p1 + 3) ((x3 * 5) + 1) (gI (sI μ (p1 + 3) (x3 * 5) (gI μ 25 x3)) 18 x3)) 17 x3)) (p1 + 3) ((x3 * 5) + 3) x2) 28 x3)) - 1)) → Z SS none mX4_describeWords d 0 0 (qV Q) 120 [some (.ref 11), some (.ref p1), some (vi x2), some (vi x3), some (vi (x3 * 5))] [vi t18, vi ((x3 * 5) + 4), .ref (p1 + 3)] (sI (sI (sI (sI μ (p1 + 3) (x3 * 5) (gI μ 25 x3)) (p1 + 3) ((x3 * 5) + 1) (gI (sI μ (p1 + 3) (x3 * 5) (gI μ 25 x3)) 18 x3)) (p1 + 3) ((x3 * 5) + 2) (gI (sI (sI μ (p1 + 3) (x3 * 5) (gI μ 25 x3)) (p1 + 3) ((x3 * 5) + 1) (gI (sI μ (p1 + 3) (x3 * 5) (gI μ 25 x3)) 18 x3)) 17 x3)) (p1 + 3) ((x3 * 5) + 3) x2) 0 0 := by
      rintro _ rfl
      have P := P.2
      have h19 := P.1
      have P := P.2
      refine Z_iastoreA (pc' := 121) dX4_describeWords_120 rfl h19 ?_
      refine Z_iinc (pc' := 124) (lo' := [some (.ref 11), some (.ref p1), some (vi x2), some (vi (x3 + 1)), some (vi (x3 * 5))]) dX4_describeWords_121 rfl (by decide) rfl rfl ?_
      refine Z_goto (tgt := 7) dX4_describeWords_124 (by decide) ?_
      refine Z_wk [true, true, true, true, false] rfl ?_
      exact P
    have G := P.1
    have h16 := G
    refine Z_icmp_le (tgt := 119) (pc' := 101) dX4_describeWords_98 (by decide) rfl h3 h16 (fun c17 => ?_) (fun c17 => ?_)
    · refine Z_iconst (pc' := 120) dX4_describeWords_119 rfl ?_
      exact K _ (by rw [if_pos c17])
    · refine Z_aload_n (pc' := 102) dX4_describeWords_101 rfl rfl ?_
      refine Z_getR (q := 27) (pc' := 105) dX4_describeWords_102 rfl fX4_38 rfl (Or.inl dd_11) (Or.inl rr_11_10) ?_
      refine Z_iload_n (pc' := 106) dX4_describeWords_105 rfl rfl ?_
      refine Z_iaload (pc' := 107) dX4_describeWords_106 rfl (Or.inl dd_27) (Nat.le_of_ble_eq_true rfl) h8 h9 ?_
      refine Z_aload_n (pc' := 108) dX4_describeWords_107 rfl rfl ?_
      refine Z_getR (q := 28) (pc' := 111) dX4_describeWords_108 rfl fX4_41 rfl (Or.inl dd_11) (Or.inl rr_11_11) ?_
      refine Z_iload_n (pc' := 112) dX4_describeWords_111 rfl rfl ?_
      refine Z_iaload (pc' := 113) dX4_describeWords_112 rfl (Or.inl dd_28) (Nat.le_of_ble_eq_true rfl) h8 h9 ?_
      refine Z_iadd (pc' := 114) dX4_describeWords_113 rfl ?_
      refine Z_iconst (pc' := 115) dX4_describeWords_114 rfl ?_
      refine Z_isub (pc' := 116) dX4_describeWords_115 rfl ?_
      refine Z_goto (tgt := 120) dX4_describeWords_116 (by decide) ?_
      exact K _ (by rw [if_neg c17])
abbrev zX4_describeBest_48 (d : Nat) (Q : Nat → zMem → Prop) (x1 : Int) (p2 : Nat) (x3 : Int) (x4 : Int) (x5 : Int) (μ : zMem) (k n : Nat) : Prop := Z SS none mX4_describeBest (d + 1) 4 178 (qR Q) 48 [some (.ref 11), some (vi x1), some (.ref p2), some (vi x3), some (vi x4), some (vi x5)] [] μ k n
abbrev zX4_describeBest_114 (d : Nat) (Q : Nat → zMem → Prop) (x1 : Int) (p2 : Nat) (x3 : Int) (x4 : Int) (x5 : Int) (μ : zMem) (k n : Nat) : Prop := Z SS none mX4_describeBest (d + 1) 4 178 (qR Q) 114 [some (.ref 11), some (vi x1), some (.ref p2), some (vi x3), some (vi x4), some (vi x5)] [] μ k n
theorem bX4_describeBest {d : Nat} {Q : Nat → zMem → Prop} {μ : zMem} {x1 : Int} (P : (0 + 1 ≤ 4) ∧ ((0 + 5 ≤ 178) ∧ (∀ q1 : Nat, q1 = (gD μ).length → (((0 + 1) + 3 ≤ 4) ∧ (((0 + 5) + 173 ≤ 178) ∧ (kX2_init d q1 (gI (aD μ 2 0) 11 16) (gI (aD μ 2 0) 16 0) (aD μ 2 0) (fun μ7 : zMem => (0 ≤ ((15 : Nat) : Int)) ∧ ((0 + ((15 : Nat) : Int) ≤ 15) ∧ (zX4_describeBest_48 d Q x1 q1 (gI (cI μ7 29 0 24 0 ((15 : Nat) : Int)) 11 2) 0 0 (cI μ7 29 0 24 0 ((15 : Nat) : Int)) ((0 + 1) + 3) ((0 + 5) + 173)))))))))) : kX4_describeBest (d + 1) x1 μ Q := by
  refine Cl_of rfl (Nat.le_of_ble_eq_true rfl) rfl ?_
  show Z SS none mX4_describeBest (d + 1) 4 178 (qR Q) 0 [some (.ref 11), some (vi x1), none, none, none, none] [] μ 0 0
  obtain ⟨q1, h2⟩ : ∃ q : Nat, q = (gD μ).length := ⟨_, rfl⟩
  have h3 := P.1
  have P := P.2
  have h4 := P.1
  have P := P.2
  refine Z_new (c0 := 2) (pc' := 3) dX4_describeBest_0 rfl (by decide) h3 h4 cX4_182 n_2 u_2 ?_
  rw [← h2]
  have P := P q1 h2
  refine Z_dup (pc' := 4) dX4_describeBest_3 rfl rfl ?_
  refine Z_aload_n (pc' := 5) dX4_describeBest_4 rfl rfl ?_
  refine Z_getI' (ji := 16) (pc' := 8) dX4_describeBest_5 rfl rfl fX4_155 rfl (Or.inl dd_11) ?_
  refine Z_aload_n (pc' := 9) dX4_describeBest_8 rfl rfl ?_
  refine Z_getR (q := 16) (pc' := 12) dX4_describeBest_9 rfl fX4_21 rfl (Or.inl dd_11) (Or.inl rr_11_1) ?_
  refine Z_getI' (ji := 0) (pc' := 15) dX4_describeBest_12 rfl rfl fX4_86 rfl (Or.inl dd_16) ?_
  have h5 := P.1
  have P := P.2
  have h6 := P.1
  have P := P.2
  refine Z_callI (M' := mX2_init) (pc' := 18) (st := [.ref q1]) [vi (gI (aD μ 2 0) 11 16), vi (gI (aD μ 2 0) 16 0)] dX4_describeBest_15 rfl iX2_init lX4_184 rfl (Nat.le_of_ble_eq_true rfl) h5 h6 ?_
  refine Cl_mono P ?_
  rintro _ μ7 ⟨rfl, P⟩
  show Z SS none mX4_describeBest (d + 1) 4 178 (qR Q) 18 [some (.ref 11), some (vi x1), none, none, none, none] [.ref q1] μ7 ((0 + 1) + 3) ((0 + 5) + 173)
  refine Z_astore_n (pc' := 19) (lo' := [some (.ref 11), some (vi x1), some (.ref q1), none, none, none]) dX4_describeBest_18 rfl (by decide) rfl ?_
  refine Z_aload_n (pc' := 20) dX4_describeBest_19 rfl rfl ?_
  refine Z_getR (q := 29) (pc' := 23) dX4_describeBest_20 rfl fX4_44 rfl (Or.inl dd_11) (Or.inl rr_11_15) ?_
  refine Z_iconst (pc' := 24) dX4_describeBest_23 rfl ?_
  refine Z_aload_n (pc' := 25) dX4_describeBest_24 rfl rfl ?_
  refine Z_getR (q := 24) (pc' := 28) dX4_describeBest_25 rfl fX4_29 rfl (Or.inl dd_11) (Or.inl rr_11_7) ?_
  refine Z_iconst (pc' := 29) dX4_describeBest_28 rfl ?_
  refine Z_aload_n (pc' := 30) dX4_describeBest_29 rfl rfl ?_
  refine Z_getR (q := 24) (pc' := 33) dX4_describeBest_30 rfl fX4_29 rfl (Or.inl dd_11) (Or.inl rr_11_7) ?_
  refine Z_alen (pc' := 34) dX4_describeBest_33 rfl (Or.inl dd_24) (Or.inl rfl) ?_
  have h8 := P.1
  have P := P.2
  have h9 := P.1
  have P := P.2
  refine Z_copyI (pc' := 37) dX4_describeBest_34 rfl lX4_158 (Or.inl dd_29) (Or.inl dd_24) (Nat.le_of_ble_eq_true rfl) (Nat.le_of_ble_eq_true rfl) (by decide) (by decide) h8 h9 h9 (Nat.le_of_ble_eq_true rfl) ?_
  refine Z_aload_n (pc' := 38) dX4_describeBest_37 rfl rfl ?_
  refine Z_getI' (ji := 2) (pc' := 41) dX4_describeBest_38 rfl rfl fX4_74 rfl (Or.inl dd_11) ?_
  refine Z_istore_n (pc' := 42) (lo' := [some (.ref 11), some (vi x1), some (.ref q1), some (vi (gI (cI μ7 29 0 24 0 ((15 : Nat) : Int)) 11 2)), none, none]) dX4_describeBest_41 rfl (by decide) rfl ?_
  refine Z_iconst (pc' := 43) dX4_describeBest_42 rfl ?_
  refine Z_istore (pc' := 45) (lo' := [some (.ref 11), some (vi x1), some (.ref q1), some (vi (gI (cI μ7 29 0 24 0 ((15 : Nat) : Int)) 11 2)), some (vi 0), none]) dX4_describeBest_43 rfl (by decide) rfl ?_
  refine Z_iconst (pc' := 46) dX4_describeBest_45 rfl ?_
  refine Z_istore (pc' := 48) (lo' := [some (.ref 11), some (vi x1), some (.ref q1), some (vi (gI (cI μ7 29 0 24 0 ((15 : Nat) : Int)) 11 2)), some (vi 0), some (vi 0)]) dX4_describeBest_46 rfl (by decide) rfl ?_
  exact P
theorem bX4_describeBest_48 {d : Nat} {Q : Nat → zMem → Prop} {μ : zMem} {k n : Nat} {x1 : Int} {p2 : Nat} {x3 : Int} {x4 : Int} {x5 : Int} (P : (zIn x5) ∧ ((zIn (gI μ 11 16)) ∧ (((gI μ 11 16) ≤ x5 → (zX4_describeBest_114 d Q x1 p2 x3 x4 ((gI μ 11 16) - 1) μ k n)) ∧ (¬ ((gI μ 11 16) ≤ x5) → ((k ≤ 4) ∧ ((n ≤ 178) ∧ (kX4_describeLine d p2 x5 x3 μ (fun μ6 : zMem => kX4_chainFromAbove d x5 μ6 (fun (r8 : Int) (μ7 : zMem) => (zIn x4) ∧ ((zIn r8) ∧ ((0 ≤ x5) ∧ ((x5 < 15) ∧ ((0 ≤ (x5 + 1)) ∧ (((x5 + 1) < 15) ∧ (kX4_rowBehind d (gI μ7 24 x5) (gI μ7 24 (x5 + 1)) x3 μ7 (fun (r16 : Int) (μ15 : zMem) => zX4_describeBest_48 d Q x1 p2 r16 (if x4 < r8 then r8 else x4) (x5 + 1) μ15 k n)))))))))))))))) : zX4_describeBest_48 d Q x1 p2 x3 x4 x5 μ k n := by
  refine Z_iload (pc' := 50) dX4_describeBest_48 rfl rfl ?_
  refine Z_aload_n (pc' := 51) dX4_describeBest_50 rfl rfl ?_
  refine Z_getI' (ji := 16) (pc' := 54) dX4_describeBest_51 rfl rfl fX4_155 rfl (Or.inl dd_11) ?_
  have h1 := P.1
  have P := P.2
  have h2 := P.1
  have P := P.2
  refine Z_icmp_ge (tgt := 106) (pc' := 57) dX4_describeBest_54 (by decide) rfl h1 h2 (fun c3 => ?_) (fun c3 => ?_)
  · have P := P.1 c3
    refine Z_aload_n (pc' := 107) dX4_describeBest_106 rfl rfl ?_
    refine Z_getI' (ji := 16) (pc' := 110) dX4_describeBest_107 rfl rfl fX4_155 rfl (Or.inl dd_11) ?_
    refine Z_iconst (pc' := 111) dX4_describeBest_110 rfl ?_
    refine Z_isub (pc' := 112) dX4_describeBest_111 rfl ?_
    refine Z_istore (pc' := 114) (lo' := [some (.ref 11), some (vi x1), some (.ref p2), some (vi x3), some (vi x4), some (vi ((gI μ 11 16) - 1))]) dX4_describeBest_112 rfl (by decide) rfl ?_
    exact P
  · have P := P.2 c3
    refine Z_aload_n (pc' := 58) dX4_describeBest_57 rfl rfl ?_
    refine Z_aload_n (pc' := 59) dX4_describeBest_58 rfl rfl ?_
    refine Z_iload (pc' := 61) dX4_describeBest_59 rfl rfl ?_
    refine Z_iload_n (pc' := 62) dX4_describeBest_61 rfl rfl ?_
    have h4 := P.1
    have P := P.2
    have h5 := P.1
    have P := P.2
    refine Z_callV0 (M' := mX4_describeLine) (pc' := 65) (st := []) [.ref p2, vi x5, vi x3] dX4_describeBest_62 rfl vX4_describeLine lX4_186 (Or.inl dd_11) rfl (Nat.le_of_ble_eq_true rfl) h4 h5 ?_
    refine Cl_mono P ?_
    rintro _ μ6 ⟨rfl, P⟩
    show Z SS none mX4_describeBest (d + 1) 4 178 (qR Q) 65 [some (.ref 11), some (vi x1), some (.ref p2), some (vi x3), some (vi x4), some (vi x5)] [] μ6 k n
    refine Z_iload (pc' := 67) dX4_describeBest_65 rfl rfl ?_
    refine Z_aload_n (pc' := 68) dX4_describeBest_67 rfl rfl ?_
    refine Z_iload (pc' := 70) dX4_describeBest_68 rfl rfl ?_
    refine Z_callV0 (M' := mX4_chainFromAbove) (pc' := 73) (st := [vi x4]) [vi x5] dX4_describeBest_70 rfl vX4_chainFromAbove lX4_151 (Or.inl dd_11) rfl (Nat.le_of_ble_eq_true rfl) h4 h5 ?_
    refine Cl_mono P ?_
    rintro _ μ7 ⟨r8, rfl, P⟩
    show Z SS none mX4_describeBest (d + 1) 4 178 (qR Q) 73 [some (.ref 11), some (vi x1), some (.ref p2), some (vi x3), some (vi x4), some (vi x5)] [vi r8, vi x4] μ7 k n
    have h9 := P.1
    have P := P.2
    have h10 := P.1
    have P := P.2
    refine Z_max (pc' := 76) dX4_describeBest_73 rfl lX4_177 h9 h10 h4 h5 (Nat.le_of_ble_eq_true rfl) ?_
    refine Z_istore (pc' := 78) (lo' := [some (.ref 11), some (vi x1), some (.ref p2), some (vi x3), some (vi (if x4 < r8 then r8 else x4)), some (vi x5)]) dX4_describeBest_76 rfl (by decide) rfl ?_
    refine Z_aload_n (pc' := 79) dX4_describeBest_78 rfl rfl ?_
    refine Z_aload_n (pc' := 80) dX4_describeBest_79 rfl rfl ?_
    refine Z_getR (q := 24) (pc' := 83) dX4_describeBest_80 rfl fX4_29 rfl (Or.inl dd_11) (Or.inl rr_11_7) ?_
    refine Z_iload (pc' := 85) dX4_describeBest_83 rfl rfl ?_
    have h11 := P.1
    have P := P.2
    have h12 := P.1
    have P := P.2
    refine Z_iaload (pc' := 86) dX4_describeBest_85 rfl (Or.inl dd_24) (Nat.le_of_ble_eq_true rfl) h11 h12 ?_
    refine Z_aload_n (pc' := 87) dX4_describeBest_86 rfl rfl ?_
    refine Z_getR (q := 24) (pc' := 90) dX4_describeBest_87 rfl fX4_29 rfl (Or.inl dd_11) (Or.inl rr_11_7) ?_
    refine Z_iload (pc' := 92) dX4_describeBest_90 rfl rfl ?_
    refine Z_iconst (pc' := 93) dX4_describeBest_92 rfl ?_
    refine Z_iadd (pc' := 94) dX4_describeBest_93 rfl ?_
    have h13 := P.1
    have P := P.2
    have h14 := P.1
    have P := P.2
    refine Z_iaload (pc' := 95) dX4_describeBest_94 rfl (Or.inl dd_24) (Nat.le_of_ble_eq_true rfl) h13 h14 ?_
    refine Z_iload_n (pc' := 96) dX4_describeBest_95 rfl rfl ?_
    refine Z_callV0 (M' := mX4_rowBehind) (pc' := 99) (st := []) [vi (gI μ7 24 x5), vi (gI μ7 24 (x5 + 1)), vi x3] dX4_describeBest_96 rfl vX4_rowBehind lX4_128 (Or.inl dd_11) rfl (Nat.le_of_ble_eq_true rfl) h4 h5 ?_
    refine Cl_mono P ?_
    rintro _ μ15 ⟨r16, rfl, P⟩
    show Z SS none mX4_describeBest (d + 1) 4 178 (qR Q) 99 [some (.ref 11), some (vi x1), some (.ref p2), some (vi x3), some (vi (if x4 < r8 then r8 else x4)), some (vi x5)] [vi r16] μ15 k n
    refine Z_istore_n (pc' := 100) (lo' := [some (.ref 11), some (vi x1), some (.ref p2), some (vi r16), some (vi (if x4 < r8 then r8 else x4)), some (vi x5)]) dX4_describeBest_99 rfl (by decide) rfl ?_
    refine Z_iinc (pc' := 103) (lo' := [some (.ref 11), some (vi x1), some (.ref p2), some (vi r16), some (vi (if x4 < r8 then r8 else x4)), some (vi (x5 + 1))]) dX4_describeBest_100 rfl (by decide) rfl rfl ?_
    refine Z_goto (tgt := 48) dX4_describeBest_103 (by decide) ?_
    exact P
theorem bX4_describeBest_114 {d : Nat} {Q : Nat → zMem → Prop} {μ : zMem} {k n : Nat} {x1 : Int} {p2 : Nat} {x3 : Int} {x4 : Int} {x5 : Int} (P : (zIn x5) ∧ ((x5 < 0 → (((gD μ)[p2]? = some (2, 0)) ∧ ((k ≤ 4) ∧ ((n ≤ 178) ∧ (kX2_putTotals d p2 x1 (gI μ 11 17) x4 (x3 - (gI μ 11 3)) μ (fun μ6 : zMem => Q p2 μ6)))))) ∧ (¬ (x5 < 0) → ((k ≤ 4) ∧ ((n ≤ 178) ∧ (kX4_chainFromBelow d x5 (gI μ 11 16) μ (fun μ9 : zMem => kX4_describeWords d p2 x5 μ9 (fun μ10 : zMem => zX4_describeBest_114 d Q x1 p2 x3 x4 (x5 + (-1)) μ10 k n)))))))) : zX4_describeBest_114 d Q x1 p2 x3 x4 x5 μ k n := by
  refine Z_iload (pc' := 116) dX4_describeBest_114 rfl rfl ?_
  have h1 := P.1
  have P := P.2
  refine Z_if_lt (tgt := 142) (pc' := 119) dX4_describeBest_116 (by decide) rfl h1 (fun c2 => ?_) (fun c2 => ?_)
  · have P := P.1 c2
    refine Z_aload_n (pc' := 143) dX4_describeBest_142 rfl rfl ?_
    refine Z_iload_n (pc' := 144) dX4_describeBest_143 rfl rfl ?_
    refine Z_aload_n (pc' := 145) dX4_describeBest_144 rfl rfl ?_
    refine Z_getI' (ji := 17) (pc' := 148) dX4_describeBest_145 rfl rfl fX4_67 rfl (Or.inl dd_11) ?_
    refine Z_iload (pc' := 150) dX4_describeBest_148 rfl rfl ?_
    refine Z_iload_n (pc' := 151) dX4_describeBest_150 rfl rfl ?_
    refine Z_aload_n (pc' := 152) dX4_describeBest_151 rfl rfl ?_
    refine Z_getI' (ji := 3) (pc' := 155) dX4_describeBest_152 rfl rfl fX4_77 rfl (Or.inl dd_11) ?_
    refine Z_isub (pc' := 156) dX4_describeBest_155 rfl ?_
    have h3 := P.1
    have P := P.2
    have h4 := P.1
    have P := P.2
    have h5 := P.1
    have P := P.2
    refine Z_callV0 (M' := mX2_putTotals) (pc' := 159) (st := []) [vi x1, vi (gI μ 11 17), vi x4, vi (x3 - (gI μ 11 3))] dX4_describeBest_156 rfl vX2_putTotals lX4_197 (Or.inr h3) rfl (Nat.le_of_ble_eq_true rfl) h4 h5 ?_
    refine Cl_mono P ?_
    rintro _ μ6 ⟨rfl, P⟩
    show Z SS none mX4_describeBest (d + 1) 4 178 (qR Q) 159 [some (.ref 11), some (vi x1), some (.ref p2), some (vi x3), some (vi x4), some (vi x5)] [] μ6 k n
    refine Z_aload_n (pc' := 160) dX4_describeBest_159 rfl rfl ?_
    exact Z_areturn dX4_describeBest_160 rfl h4 h5 P
  · have P := P.2 c2
    refine Z_aload_n (pc' := 120) dX4_describeBest_119 rfl rfl ?_
    refine Z_iload (pc' := 122) dX4_describeBest_120 rfl rfl ?_
    refine Z_aload_n (pc' := 123) dX4_describeBest_122 rfl rfl ?_
    refine Z_getI' (ji := 16) (pc' := 126) dX4_describeBest_123 rfl rfl fX4_155 rfl (Or.inl dd_11) ?_
    have h7 := P.1
    have P := P.2
    have h8 := P.1
    have P := P.2
    refine Z_callV0 (M' := mX4_chainFromBelow) (pc' := 129) (st := []) [vi x5, vi (gI μ 11 16)] dX4_describeBest_126 rfl vX4_chainFromBelow lX4_190 (Or.inl dd_11) rfl (Nat.le_of_ble_eq_true rfl) h7 h8 ?_
    refine Cl_mono P ?_
    rintro _ μ9 ⟨rfl, P⟩
    show Z SS none mX4_describeBest (d + 1) 4 178 (qR Q) 129 [some (.ref 11), some (vi x1), some (.ref p2), some (vi x3), some (vi x4), some (vi x5)] [] μ9 k n
    refine Z_aload_n (pc' := 130) dX4_describeBest_129 rfl rfl ?_
    refine Z_aload_n (pc' := 131) dX4_describeBest_130 rfl rfl ?_
    refine Z_iload (pc' := 133) dX4_describeBest_131 rfl rfl ?_
    refine Z_callV0 (M' := mX4_describeWords) (pc' := 136) (st := []) [.ref p2, vi x5] dX4_describeBest_133 rfl vX4_describeWords lX4_193 (Or.inl dd_11) rfl (Nat.le_of_ble_eq_true rfl) h7 h8 ?_
    refine Cl_mono P ?_
    rintro _ μ10 ⟨rfl, P⟩
    show Z SS none mX4_describeBest (d + 1) 4 178 (qR Q) 136 [some (.ref 11), some (vi x1), some (.ref p2), some (vi x3), some (vi x4), some (vi x5)] [] μ10 k n
    refine Z_iinc (pc' := 139) (lo' := [some (.ref 11), some (vi x1), some (.ref p2), some (vi x3), some (vi x4), some (vi (x5 + (-1)))]) dX4_describeBest_136 rfl (by decide) rfl rfl ?_
    refine Z_goto (tgt := 114) dX4_describeBest_139 (by decide) ?_
    exact P
abbrev zJ7_fill_53178_5 (S : zS) (d : Nat) (Q : zMem → Prop) (p0 : Nat) (x1 : Int) (x2 : Int) (x3 : Int) (μ : zMem) : Prop := Z S none mJ7_fill_53178 d 0 0 (qV Q) 5 [some (.ref p0), some (vi x1), some (vi x2), some (vi x3)] [] μ 0 0
theorem bJ7_fill_53178 {S : zS} {d : Nat} {Q : zMem → Prop} {μ : zMem} {p0 : Nat} {x1 : Int} {n0 : Nat} (hn0 : (gD μ)[p0]? = some (9, n0)) (hm0 : n0 ≤ 2147483647) (P : ∃ n1 : Nat, ((gD μ)[p0]? = some (9, n1)) ∧ (zJ7_fill_53178_5 S d Q p0 x1 0 (n1 : Int) μ)) : kJ7_fill_53178 S d p0 x1 μ Q := by
  refine Cl_of rfl (Nat.le_of_ble_eq_true rfl) rfl ?_
  show Z S none mJ7_fill_53178 d 0 0 (qV Q) 0 [some (.ref p0), some (vi x1), none, none] [] μ 0 0
  refine Z_iconst (pc' := 1) dJ7_fill_53178_0 rfl ?_
  refine Z_istore_n (pc' := 2) (lo' := [some (.ref p0), some (vi x1), some (vi 0), none]) dJ7_fill_53178_1 rfl (by decide) rfl ?_
  refine Z_aload_n (pc' := 3) dJ7_fill_53178_2 rfl rfl ?_
  obtain ⟨n1, h2, P⟩ := P
  refine Z_alen (pc' := 4) dJ7_fill_53178_3 rfl (Or.inr h2) (Or.inl rfl) ?_
  refine Z_istore_n (pc' := 5) (lo' := [some (.ref p0), some (vi x1), some (vi 0), some (vi (n1 : Int))]) dJ7_fill_53178_4 rfl (by decide) rfl ?_
  exact P
theorem bJ7_fill_53178_5 {S : zS} {d : Nat} {Q : zMem → Prop} {μ : zMem} {p0 : Nat} {x1 : Int} {x2 : Int} {x3 : Int} {n0 : Nat} (hn0 : (gD μ)[p0]? = some (9, n0)) (hm0 : n0 ≤ 2147483647) (P : (zIn x2) ∧ ((zIn x3) ∧ ((x3 ≤ x2 → (Q μ)) ∧ (¬ (x3 ≤ x2) → ((0 ≤ x2) ∧ ((x2 < n0) ∧ (zJ7_fill_53178_5 S d Q p0 x1 (x2 + 1) x3 (sI μ p0 x2 x1)))))))) : zJ7_fill_53178_5 S d Q p0 x1 x2 x3 μ := by
  refine Z_iload_n (pc' := 6) dJ7_fill_53178_5 rfl rfl ?_
  refine Z_iload_n (pc' := 7) dJ7_fill_53178_6 rfl rfl ?_
  have h1 := P.1
  have P := P.2
  have h2 := P.1
  have P := P.2
  refine Z_icmp_ge (tgt := 20) (pc' := 10) dJ7_fill_53178_7 (by decide) rfl h1 h2 (fun c3 => ?_) (fun c3 => ?_)
  · have P := P.1 c3
    exact Z_return dJ7_fill_53178_20 rfl (Nat.le_refl 0) (Nat.le_refl 0) P
  · have P := P.2 c3
    refine Z_aload_n (pc' := 11) dJ7_fill_53178_10 rfl rfl ?_
    refine Z_iload_n (pc' := 12) dJ7_fill_53178_11 rfl rfl ?_
    refine Z_iload_n (pc' := 13) dJ7_fill_53178_12 rfl rfl ?_
    have h4 := P.1
    have P := P.2
    have h5 := P.1
    have P := P.2
    refine Z_iastore (pc' := 14) dJ7_fill_53178_13 rfl (Or.inr hn0) hm0 h4 h5 ?_
    refine Z_iinc (pc' := 17) (lo' := [some (.ref p0), some (vi x1), some (vi (x2 + 1)), some (vi x3)]) dJ7_fill_53178_14 rfl (by decide) rfl rfl ?_
    refine Z_goto (tgt := 5) dJ7_fill_53178_17 (by decide) ?_
    exact P
theorem bX5_init {S : zS} {d : Nat} {Q : zMem → Prop} {μ : zMem} {p0 : Nat} (P : (0 + 1 ≤ 5) ∧ ((0 + 4 ≤ 120) ∧ (∀ q1 : Nat, q1 = (gD μ).length → (((0 + 1) + 2 ≤ 5) ∧ (((0 + 4) + 66 ≤ 120) ∧ (kX1_init S d q1 (aD μ 1 0) (fun μ7 : zMem => ((gD μ7)[p0]? = some (5, 0)) ∧ ((S.1 p0 0 = none ∨ S.1 p0 0 = some q1) ∧ (((gD (sR μ7 p0 0 (some q1)))[p0]? = some (5, 0)) ∧ ((((0 + 1) + 2) + 1 ≤ 5) ∧ ((((0 + 4) + 66) + 42 ≤ 120) ∧ (∀ q11 : Nat, q11 = (gD (sI (sR μ7 p0 0 (some q1)) p0 1 0)).length → (((gD (aD (sI (sR μ7 p0 0 (some q1)) p0 1 0) 9 42))[p0]? = some (5, 0)) ∧ ((S.1 p0 2 = none ∨ S.1 p0 2 = some q11) ∧ (((((0 + 1) + 2) + 1) + 1 ≤ 5) ∧ (((((0 + 4) + 66) + 42) + 8 ≤ 120) ∧ (∀ q17 : Nat, q17 = (gD (sR (aD (sI (sR μ7 p0 0 (some q1)) p0 1 0) 9 42) p0 2 (some q11))).length → (((gD (aD (sR (aD (sI (sR μ7 p0 0 (some q1)) p0 1 0) 9 42) p0 2 (some q11)) 9 8))[p0]? = some (5, 0)) ∧ ((S.1 p0 3 = none ∨ S.1 p0 3 = some q17) ∧ (((gD (sR (aD (sR (aD (sI (sR μ7 p0 0 (some q1)) p0 1 0) 9 42) p0 2 (some q11)) 9 8) p0 3 (some q17)))[p0]? = some (5, 0)) ∧ ((S.1 p0 4 = none ∨ S.1 p0 4 = none) ∧ (((gD (sR (sR (aD (sR (aD (sI (sR μ7 p0 0 (some q1)) p0 1 0) 9 42) p0 2 (some q11)) 9 8) p0 3 (some q17)) p0 4 (none)))[p0]? = some (5, 0)) ∧ (∃ q26 : Nat, (gR (sR (sR (aD (sR (aD (sI (sR μ7 p0 0 (some q1)) p0 1 0) 9 42) p0 2 (some q11)) 9 8) p0 3 (some q17)) p0 4 (none)) p0 3 = some q26) ∧ ((((((0 + 1) + 2) + 1) + 1) ≤ 5) ∧ ((((((0 + 4) + 66) + 42) + 8) ≤ 120) ∧ (kJ7_fill_53178 S d q26 1 (sR (sR (aD (sR (aD (sI (sR μ7 p0 0 (some q1)) p0 1 0) 9 42) p0 2 (some q11)) 9 8) p0 3 (some q17)) p0 4 (none)) (fun μ30 : zMem => ((gD μ30)[p0]? = some (5, 0)) ∧ (∃ q32 : Nat, (gR μ30 p0 3 = some q32) ∧ ((zA μ30 q32 4) ∧ (∃ q35 : Nat, (gR μ30 p0 3 = some q35) ∧ ((zA μ30 q35 7) ∧ (Q (sI (sI μ30 q32 4 0) q35 7 9))))))))))))))))))))))))))))))))) : kX5_init S (d + 1) p0 μ Q := by
  refine Cl_of rfl (Nat.le_of_ble_eq_true rfl) rfl ?_
  show Z S none mX5_init (d + 1) 5 120 (qV Q) 0 [some (.ref p0)] [] μ 0 0
  refine Z_aload_n (pc' := 1) dX5_init_0 rfl rfl ?_
  refine Z_objInit (pc' := 4) dX5_init_1 rfl lX5_3 l_oi l_oc (Nat.le_of_ble_eq_true rfl) ?_
  refine Z_aload_n (pc' := 5) dX5_init_4 rfl rfl ?_
  obtain ⟨q1, h2⟩ : ∃ q : Nat, q = (gD μ).length := ⟨_, rfl⟩
  have h3 := P.1
  have P := P.2
  have h4 := P.1
  have P := P.2
  refine Z_new (c0 := 1) (pc' := 8) dX5_init_5 rfl (by decide) h3 h4 cX5_9 n_1 u_1 ?_
  rw [← h2]
  have P := P q1 h2
  refine Z_dup (pc' := 9) dX5_init_8 rfl rfl ?_
  have h5 := P.1
  have P := P.2
  have h6 := P.1
  have P := P.2
  refine Z_callIN (M' := mX1_init) (pc' := 12) (st := [.ref q1, .ref p0]) [] dX5_init_9 rfl iX1_init lX5_11 rfl (Nat.le_of_ble_eq_true rfl) h5 h6 ?_
  refine Cl_mono P ?_
  rintro _ μ7 ⟨rfl, P⟩
  show Z S none mX5_init (d + 1) 5 120 (qV Q) 12 [some (.ref p0)] [.ref q1, .ref p0] μ7 ((0 + 1) + 2) ((0 + 4) + 66)
  have h8 := P.1
  have P := P.2
  have h9 := P.1
  have P := P.2
  refine Z_putR' (ji := 0) (pc' := 15) dX5_init_12 rfl rfl fX5_12 (Or.inr ⟨rfl, rfl⟩) rfl (Or.inr h8) h9 ?_
  refine Z_aload_n (pc' := 16) dX5_init_15 rfl rfl ?_
  refine Z_iconst (pc' := 17) dX5_init_16 rfl ?_
  have h10 := P.1
  have P := P.2
  refine Z_putI' (ji := 1) (pc' := 20) dX5_init_17 rfl rfl fX5_18 (Or.inl rfl) rfl (Or.inr h10) ?_
  refine Z_aload_n (pc' := 21) dX5_init_20 rfl rfl ?_
  refine Z_bipush (pc' := 23) dX5_init_21 rfl rfl ?_
  obtain ⟨q11, h12⟩ : ∃ q : Nat, q = (gD (sI (sR μ7 p0 0 (some q1)) p0 1 0)).length := ⟨_, rfl⟩
  have h13 := P.1
  have P := P.2
  have h14 := P.1
  have P := P.2
  refine Z_newI (pc' := 25) dX5_init_23 rfl (by decide) (by decide) h13 h14 l_ai ?_
  show Z S none mX5_init (d + 1) 5 120 (qV Q) 25 _ _ (aD (sI (sR μ7 p0 0 (some q1)) p0 1 0) 9 42) (((0 + 1) + 2) + 1) (((0 + 4) + 66) + 42)
  rw [← h12]
  have P := P q11 h12
  have h15 := P.1
  have P := P.2
  have h16 := P.1
  have P := P.2
  refine Z_putR' (ji := 2) (pc' := 28) dX5_init_25 rfl rfl fX5_22 (Or.inr ⟨rfl, rfl⟩) rfl (Or.inr h15) h16 ?_
  refine Z_aload_n (pc' := 29) dX5_init_28 rfl rfl ?_
  refine Z_bipush (pc' := 31) dX5_init_29 rfl rfl ?_
  obtain ⟨q17, h18⟩ : ∃ q : Nat, q = (gD (sR (aD (sI (sR μ7 p0 0 (some q1)) p0 1 0) 9 42) p0 2 (some q11))).length := ⟨_, rfl⟩
  have h19 := P.1
  have P := P.2
  have h20 := P.1
  have P := P.2
  refine Z_newI (pc' := 33) dX5_init_31 rfl (by decide) (by decide) h19 h20 l_ai ?_
  show Z S none mX5_init (d + 1) 5 120 (qV Q) 33 _ _ (aD (sR (aD (sI (sR μ7 p0 0 (some q1)) p0 1 0) 9 42) p0 2 (some q11)) 9 8) ((((0 + 1) + 2) + 1) + 1) ((((0 + 4) + 66) + 42) + 8)
  rw [← h18]
  have P := P q17 h18
  have h21 := P.1
  have P := P.2
  have h22 := P.1
  have P := P.2
  refine Z_putR' (ji := 3) (pc' := 36) dX5_init_33 rfl rfl fX5_26 (Or.inr ⟨rfl, rfl⟩) rfl (Or.inr h21) h22 ?_
  refine Z_aload_n (pc' := 37) dX5_init_36 rfl rfl ?_
  refine Z_null (pc' := 38) dX5_init_37 rfl ?_
  have h23 := P.1
  have P := P.2
  have h24 := P.1
  have P := P.2
  refine Z_putO' (ji := 4) (pc' := 41) dX5_init_38 rfl rfl fX5_29 (Or.inl rfl) rfl (Or.inr h23) h24 ?_
  refine Z_aload_n (pc' := 42) dX5_init_41 rfl rfl ?_
  have h25 := P.1
  have P := P.2
  obtain ⟨q26, h27, P⟩ := P
  refine Z_getR (q := q26) (pc' := 45) dX5_init_42 rfl fX5_26 rfl (Or.inr h25) (Or.inr h27) ?_
  refine Z_iconst (pc' := 46) dX5_init_45 rfl ?_
  have h28 := P.1
  have P := P.2
  have h29 := P.1
  have P := P.2
  refine Z_callS0 (M' := mJ7_fill_53178) (pc' := 49) (st := []) [.ref q26, vi 1] dX5_init_46 rfl sJ7_fill_53178 lX5_33 rfl (Nat.le_of_ble_eq_true rfl) h28 h29 ?_
  refine Cl_mono P ?_
  rintro _ μ30 ⟨rfl, P⟩
  show Z S none mX5_init (d + 1) 5 120 (qV Q) 49 [some (.ref p0)] [] μ30 ((((0 + 1) + 2) + 1) + 1) ((((0 + 4) + 66) + 42) + 8)
  refine Z_aload_n (pc' := 50) dX5_init_49 rfl rfl ?_
  have h31 := P.1
  have P := P.2
  obtain ⟨q32, h33, P⟩ := P
  refine Z_getR (q := q32) (pc' := 53) dX5_init_50 rfl fX5_26 rfl (Or.inr h31) (Or.inr h33) ?_
  refine Z_iconst (pc' := 54) dX5_init_53 rfl ?_
  refine Z_iconst (pc' := 55) dX5_init_54 rfl ?_
  have h34 := P.1
  have P := P.2
  refine Z_iastoreA (pc' := 56) dX5_init_55 rfl h34 ?_
  refine Z_aload_n (pc' := 57) dX5_init_56 rfl rfl ?_
  obtain ⟨q35, h36, P⟩ := P
  refine Z_getR (q := q35) (pc' := 60) dX5_init_57 rfl fX5_26 rfl (Or.inr h31) (Or.inr h36) ?_
  refine Z_bipush (pc' := 62) dX5_init_60 rfl rfl ?_
  refine Z_bipush (pc' := 64) dX5_init_62 rfl rfl ?_
  have h37 := P.1
  have P := P.2
  refine Z_iastoreA (pc' := 65) dX5_init_64 rfl h37 ?_
  exact Z_return dX5_init_65 rfl h28 h29 P
theorem bX5_copyFrom {d : Nat} {Q : zMem → Prop} {μ : zMem} {p0 : Nat} {p1 : Nat} (hs0 : isSt p0) (hs1 : isSt p1) (P : kX1_copyFrom d p0 p1 μ (fun μ1 : zMem => (0 ≤ ((42 : Nat) : Int)) ∧ ((0 + ((42 : Nat) : Int) ≤ 42) ∧ ((0 ≤ ((8 : Nat) : Int)) ∧ ((0 + ((8 : Nat) : Int) ≤ 8) ∧ (Q (sR (cI (cI (sI μ1 p0 1 (gI μ1 p1 1)) (p1 + 4) 0 (p0 + 4) 0 ((42 : Nat) : Int)) (p1 + 5) 0 (p0 + 5) 0 ((8 : Nat) : Int)) p0 4 (gR μ1 p1 4)))))))) : kX5_copyFrom (d + 1) p0 p1 μ Q := by
  refine Cl_of rfl (Nat.le_of_ble_eq_true rfl) rfl ?_
  show Z SS none mX5_copyFrom (d + 1) 0 0 (qV Q) 0 [some (.ref p0), some (.ref p1)] [] μ 0 0
  refine Z_aload_n (pc' := 1) dX5_copyFrom_0 rfl rfl ?_
  refine Z_getR (q := p0 + 1) (pc' := 4) dX5_copyFrom_1 rfl fX5_12 rfl (Or.inl (st_d hs0)) (Or.inl (st_r0 hs0)) ?_
  refine Z_aload_n (pc' := 5) dX5_copyFrom_4 rfl rfl ?_
  refine Z_getR (q := p1 + 1) (pc' := 8) dX5_copyFrom_5 rfl fX5_12 rfl (Or.inl (st_d hs1)) (Or.inl (st_r0 hs1)) ?_
  refine Z_callV0 (M' := mX1_copyFrom) (pc' := 11) (st := []) [.ref (p1 + 1)] dX5_copyFrom_8 rfl vX1_copyFrom lX5_39 (Or.inl (st_d1 hs0)) rfl (Nat.le_of_ble_eq_true rfl) (Nat.le_refl 0) (Nat.le_refl 0) ?_
  refine Cl_mono P ?_
  rintro _ μ1 ⟨rfl, P⟩
  show Z SS none mX5_copyFrom (d + 1) 0 0 (qV Q) 11 [some (.ref p0), some (.ref p1)] [] μ1 0 0
  refine Z_aload_n (pc' := 12) dX5_copyFrom_11 rfl rfl ?_
  refine Z_aload_n (pc' := 13) dX5_copyFrom_12 rfl rfl ?_
  refine Z_getI' (ji := 1) (pc' := 16) dX5_copyFrom_13 rfl rfl fX5_18 rfl (Or.inl (st_d hs1)) ?_
  refine Z_putI' (ji := 1) (pc' := 19) dX5_copyFrom_16 rfl rfl fX5_18 (Or.inl rfl) rfl (Or.inl (st_d hs0)) ?_
  refine Z_aload_n (pc' := 20) dX5_copyFrom_19 rfl rfl ?_
  refine Z_getR (q := p1 + 4) (pc' := 23) dX5_copyFrom_20 rfl fX5_22 rfl (Or.inl (st_d hs1)) (Or.inl (st_r2 hs1)) ?_
  refine Z_iconst (pc' := 24) dX5_copyFrom_23 rfl ?_
  refine Z_aload_n (pc' := 25) dX5_copyFrom_24 rfl rfl ?_
  refine Z_getR (q := p0 + 4) (pc' := 28) dX5_copyFrom_25 rfl fX5_22 rfl (Or.inl (st_d hs0)) (Or.inl (st_r2 hs0)) ?_
  refine Z_iconst (pc' := 29) dX5_copyFrom_28 rfl ?_
  refine Z_aload_n (pc' := 30) dX5_copyFrom_29 rfl rfl ?_
  refine Z_getR (q := p0 + 4) (pc' := 33) dX5_copyFrom_30 rfl fX5_22 rfl (Or.inl (st_d hs0)) (Or.inl (st_r2 hs0)) ?_
  refine Z_alen (pc' := 34) dX5_copyFrom_33 rfl (Or.inl (st_d4 hs0)) (Or.inl rfl) ?_
  have h2 := P.1
  have P := P.2
  have h3 := P.1
  have P := P.2
  refine Z_copyI (pc' := 37) dX5_copyFrom_34 rfl lX5_43 (Or.inl (st_d4 hs1)) (Or.inl (st_d4 hs0)) (Nat.le_of_ble_eq_true rfl) (Nat.le_of_ble_eq_true rfl) (by decide) (by decide) h2 h3 h3 (Nat.le_of_ble_eq_true rfl) ?_
  refine Z_aload_n (pc' := 38) dX5_copyFrom_37 rfl rfl ?_
  refine Z_getR (q := p1 + 5) (pc' := 41) dX5_copyFrom_38 rfl fX5_26 rfl (Or.inl (st_d hs1)) (Or.inl (st_r3 hs1)) ?_
  refine Z_iconst (pc' := 42) dX5_copyFrom_41 rfl ?_
  refine Z_aload_n (pc' := 43) dX5_copyFrom_42 rfl rfl ?_
  refine Z_getR (q := p0 + 5) (pc' := 46) dX5_copyFrom_43 rfl fX5_26 rfl (Or.inl (st_d hs0)) (Or.inl (st_r3 hs0)) ?_
  refine Z_iconst (pc' := 47) dX5_copyFrom_46 rfl ?_
  refine Z_aload_n (pc' := 48) dX5_copyFrom_47 rfl rfl ?_
  refine Z_getR (q := p0 + 5) (pc' := 51) dX5_copyFrom_48 rfl fX5_26 rfl (Or.inl (st_d hs0)) (Or.inl (st_r3 hs0)) ?_
  refine Z_alen (pc' := 52) dX5_copyFrom_51 rfl (Or.inl (st_d5 hs0)) (Or.inl rfl) ?_
  have h4 := P.1
  have P := P.2
  have h5 := P.1
  have P := P.2
  refine Z_copyI (pc' := 55) dX5_copyFrom_52 rfl lX5_43 (Or.inl (st_d5 hs1)) (Or.inl (st_d5 hs0)) (Nat.le_of_ble_eq_true rfl) (Nat.le_of_ble_eq_true rfl) (by decide) (by decide) h4 h5 h5 (Nat.le_of_ble_eq_true rfl) ?_
  refine Z_aload_n (pc' := 56) dX5_copyFrom_55 rfl rfl ?_
  refine Z_aload_n (pc' := 57) dX5_copyFrom_56 rfl rfl ?_
  refine Z_getO' (ji := 4) (pc' := 60) dX5_copyFrom_57 rfl rfl fX5_29 rfl (Or.inl (st_d hs1)) ?_
  refine Z_putO' (ji := 4) (pc' := 63) dX5_copyFrom_60 rfl rfl fX5_29 (Or.inl rfl) rfl (Or.inl (st_d hs0)) (Or.inl (st_r4 hs0)) ?_
  exact Z_return dX5_copyFrom_63 rfl (Nat.le_refl 0) (Nat.le_refl 0) P
theorem bX5_putWord {d : Nat} {Q : zMem → Prop} {μ : zMem} {x1 : Int} {x2 : Int} {x3 : Int} {x4 : Int} (P : (0 ≤ ((x1 * 3) + 0)) ∧ ((((x1 * 3) + 0) < 42) ∧ ((0 ≤ ((x1 * 3) + 1)) ∧ ((((x1 * 3) + 1) < 42) ∧ ((0 ≤ ((x1 * 3) + 2)) ∧ ((((x1 * 3) + 2) < 42) ∧ (Q (sI (sI (sI μ 5 ((x1 * 3) + 0) x2) 5 ((x1 * 3) + 1) x3) 5 ((x1 * 3) + 2) x4)))))))) : kX5_putWord d x1 x2 x3 x4 μ Q := by
  refine Cl_of rfl (Nat.le_of_ble_eq_true rfl) rfl ?_
  show Z SS none mX5_putWord d 0 0 (qV Q) 0 [some (.ref 1), some (vi x1), some (vi x2), some (vi x3), some (vi x4)] [] μ 0 0
  refine Z_aload_n (pc' := 1) dX5_putWord_0 rfl rfl ?_
  refine Z_getR (q := 5) (pc' := 4) dX5_putWord_1 rfl fX5_22 rfl (Or.inl dd_1) (Or.inl rr_1_2) ?_
  refine Z_iload_n (pc' := 5) dX5_putWord_4 rfl rfl ?_
  refine Z_iconst (pc' := 6) dX5_putWord_5 rfl ?_
  refine Z_imul (pc' := 7) dX5_putWord_6 rfl ?_
  refine Z_iconst (pc' := 8) dX5_putWord_7 rfl ?_
  refine Z_iadd (pc' := 9) dX5_putWord_8 rfl ?_
  refine Z_iload_n (pc' := 10) dX5_putWord_9 rfl rfl ?_
  have h1 := P.1
  have P := P.2
  have h2 := P.1
  have P := P.2
  refine Z_iastore (pc' := 11) dX5_putWord_10 rfl (Or.inl dd_5) (Nat.le_of_ble_eq_true rfl) h1 h2 ?_
  refine Z_aload_n (pc' := 12) dX5_putWord_11 rfl rfl ?_
  refine Z_getR (q := 5) (pc' := 15) dX5_putWord_12 rfl fX5_22 rfl (Or.inl dd_1) (Or.inl rr_1_2) ?_
  refine Z_iload_n (pc' := 16) dX5_putWord_15 rfl rfl ?_
  refine Z_iconst (pc' := 17) dX5_putWord_16 rfl ?_
  refine Z_imul (pc' := 18) dX5_putWord_17 rfl ?_
  refine Z_iconst (pc' := 19) dX5_putWord_18 rfl ?_
  refine Z_iadd (pc' := 20) dX5_putWord_19 rfl ?_
  refine Z_iload_n (pc' := 21) dX5_putWord_20 rfl rfl ?_
  have h3 := P.1
  have P := P.2
  have h4 := P.1
  have P := P.2
  refine Z_iastore (pc' := 22) dX5_putWord_21 rfl (Or.inl dd_5) (Nat.le_of_ble_eq_true rfl) h3 h4 ?_
  refine Z_aload_n (pc' := 23) dX5_putWord_22 rfl rfl ?_
  refine Z_getR (q := 5) (pc' := 26) dX5_putWord_23 rfl fX5_22 rfl (Or.inl dd_1) (Or.inl rr_1_2) ?_
  refine Z_iload_n (pc' := 27) dX5_putWord_26 rfl rfl ?_
  refine Z_iconst (pc' := 28) dX5_putWord_27 rfl ?_
  refine Z_imul (pc' := 29) dX5_putWord_28 rfl ?_
  refine Z_iconst (pc' := 30) dX5_putWord_29 rfl ?_
  refine Z_iadd (pc' := 31) dX5_putWord_30 rfl ?_
  refine Z_iload (pc' := 33) dX5_putWord_31 rfl rfl ?_
  have h5 := P.1
  have P := P.2
  have h6 := P.1
  have P := P.2
  refine Z_iastore (pc' := 34) dX5_putWord_33 rfl (Or.inl dd_5) (Nat.le_of_ble_eq_true rfl) h5 h6 ?_
  exact Z_return dX5_putWord_34 rfl (Nat.le_refl 0) (Nat.le_refl 0) P
theorem bX6_init {S : zS} {d : Nat} {Q : zMem → Prop} {μ : zMem} {p0 : Nat} (P : ((gD μ)[p0]? = some (6, 0)) ∧ ((0 + 1 ≤ 1) ∧ ((0 + 42 ≤ 42) ∧ (∀ q2 : Nat, q2 = (gD (sI μ p0 0 0)).length → (((gD (aD (sI μ p0 0 0) 9 42))[p0]? = some (6, 0)) ∧ ((S.1 p0 1 = none ∨ S.1 p0 1 = some q2) ∧ (((gD (sR (aD (sI μ p0 0 0) 9 42) p0 1 (some q2)))[p0]? = some (6, 0)) ∧ (((0 + 1) ≤ 1) ∧ (((0 + 42) ≤ 42) ∧ (Q (sI (sR (aD (sI μ p0 0 0) 9 42) p0 1 (some q2)) p0 2 0))))))))))) : kX6_init S (d + 1) p0 μ Q := by
  refine Cl_of rfl (Nat.le_of_ble_eq_true rfl) rfl ?_
  show Z S none mX6_init (d + 1) 1 42 (qV Q) 0 [some (.ref p0)] [] μ 0 0
  refine Z_aload_n (pc' := 1) dX6_init_0 rfl rfl ?_
  refine Z_objInit (pc' := 4) dX6_init_1 rfl lX6_3 l_oi l_oc (Nat.le_of_ble_eq_true rfl) ?_
  refine Z_aload_n (pc' := 5) dX6_init_4 rfl rfl ?_
  refine Z_iconst (pc' := 6) dX6_init_5 rfl ?_
  have h1 := P.1
  have P := P.2
  refine Z_putI' (ji := 0) (pc' := 9) dX6_init_6 rfl rfl fX6_9 (Or.inl rfl) rfl (Or.inr h1) ?_
  refine Z_aload_n (pc' := 10) dX6_init_9 rfl rfl ?_
  refine Z_bipush (pc' := 12) dX6_init_10 rfl rfl ?_
  obtain ⟨q2, h3⟩ : ∃ q : Nat, q = (gD (sI μ p0 0 0)).length := ⟨_, rfl⟩
  have h4 := P.1
  have P := P.2
  have h5 := P.1
  have P := P.2
  refine Z_newI (pc' := 14) dX6_init_12 rfl (by decide) (by decide) h4 h5 l_ai ?_
  show Z S none mX6_init (d + 1) 1 42 (qV Q) 14 _ _ (aD (sI μ p0 0 0) 9 42) (0 + 1) (0 + 42)
  rw [← h3]
  have P := P q2 h3
  have h6 := P.1
  have P := P.2
  have h7 := P.1
  have P := P.2
  refine Z_putR' (ji := 1) (pc' := 17) dX6_init_14 rfl rfl fX6_15 (Or.inr ⟨rfl, rfl⟩) rfl (Or.inr h6) h7 ?_
  refine Z_aload_n (pc' := 18) dX6_init_17 rfl rfl ?_
  refine Z_iconst (pc' := 19) dX6_init_18 rfl ?_
  have h8 := P.1
  have P := P.2
  refine Z_putI' (ji := 2) (pc' := 22) dX6_init_19 rfl rfl fX6_19 (Or.inl rfl) rfl (Or.inr h8) ?_
  have h9 := P.1
  have P := P.2
  have h10 := P.1
  have P := P.2
  exact Z_return dX6_init_22 rfl h9 h10 P
theorem bX6_isLetter {d : Nat} {Q : Int → zMem → Prop} {μ : zMem} {x0 : Int} (P : kX7_isIn d x0 65 90 μ (fun (r2 : Int) (μ1 : zMem) => (zIn r2) ∧ ((r2 = 0 → (kX7_isIn d x0 97 122 μ1 (fun (r6 : Int) (μ5 : zMem) => ((zIn r6)) ∧ (Q (if r6 = 0 then 0 else 1) μ5)))) ∧ (¬ (r2 = 0) → (Q 1 μ1))))) : kX6_isLetter (d + 1) x0 μ Q := by
  refine Cl_of rfl (Nat.le_of_ble_eq_true rfl) rfl ?_
  show Z SS none mX6_isLetter (d + 1) 0 0 (qI Q) 0 [some (vi x0)] [] μ 0 0
  refine Z_iload_n (pc' := 1) dX6_isLetter_0 rfl rfl ?_
  refine Z_bipush (pc' := 3) dX6_isLetter_1 rfl rfl ?_
  refine Z_bipush (pc' := 5) dX6_isLetter_3 rfl rfl ?_
  refine Z_callSN0 (M' := mX7_isIn) (pc' := 8) (st := []) [vi x0, vi 65, vi 90] dX6_isLetter_5 rfl sX7_isIn lX6_42 rfl (Nat.le_of_ble_eq_true rfl) (Nat.le_refl 0) (Nat.le_refl 0) ?_
  refine Cl_mono P ?_
  rintro _ μ1 ⟨r2, rfl, P⟩
  show Z SS none mX6_isLetter (d + 1) 0 0 (qI Q) 8 [some (vi x0)] [vi r2] μ1 0 0
  have h3 := P.1
  have P := P.2
  refine Z_if_ne (tgt := 22) (pc' := 11) dX6_isLetter_8 (by decide) rfl h3 (fun c4 => ?_) (fun c4 => ?_)
  · have P := P.2 c4
    refine Z_iconst (pc' := 23) dX6_isLetter_22 rfl ?_
    refine Z_goto (tgt := 27) dX6_isLetter_23 (by decide) ?_
    exact Z_zreturn dX6_isLetter_27 rfl (Or.inr rfl) (Nat.le_refl 0) (Nat.le_refl 0) P
  · have P := P.1 c4
    refine Z_iload_n (pc' := 12) dX6_isLetter_11 rfl rfl ?_
    refine Z_bipush (pc' := 14) dX6_isLetter_12 rfl rfl ?_
    refine Z_bipush (pc' := 16) dX6_isLetter_14 rfl rfl ?_
    refine Z_callSN0 (M' := mX7_isIn) (pc' := 19) (st := []) [vi x0, vi 97, vi 122] dX6_isLetter_16 rfl sX7_isIn lX6_42 rfl (Nat.le_of_ble_eq_true rfl) (Nat.le_refl 0) (Nat.le_refl 0) ?_
    refine Cl_mono P ?_
    rintro _ μ5 ⟨r6, rfl, P⟩
    show Z SS none mX6_isLetter (d + 1) 0 0 (qI Q) 19 [some (vi x0)] [vi r6] μ5 0 0
    have K : ∀ t9 : Int, t9 = (if r6 = 0 then 0 else 1) → Z SS none mX6_isLetter (d + 1) 0 0 (qI Q) 27 [some (vi x0)] [vi t9] μ5 0 0 := by
      rintro _ rfl
      have P := P.2
      exact Z_zreturn dX6_isLetter_27 rfl (by (repeat' split) <;> simp) (Nat.le_refl 0) (Nat.le_refl 0) P
    have G := P.1
    have h7 := G
    refine Z_if_eq (tgt := 26) (pc' := 22) dX6_isLetter_19 (by decide) rfl h7 (fun c8 => ?_) (fun c8 => ?_)
    · refine Z_iconst (pc' := 27) dX6_isLetter_26 rfl ?_
      exact K _ (by rw [if_pos c8])
    · refine Z_iconst (pc' := 23) dX6_isLetter_22 rfl ?_
      refine Z_goto (tgt := 27) dX6_isLetter_23 (by decide) ?_
      exact K _ (by rw [if_neg c8])
theorem bX6_addUpTo {d : Nat} {Q : Int → zMem → Prop} {μ : zMem} {x1 : Int} {x2 : Int} (P : (zIn ((((gI μ 9 0) - 1) * 3) + x2)) ∧ ((((((gI μ 9 0) - 1) * 3) + x2) < 0 → (Q 0 μ)) ∧ (¬ (((((gI μ 9 0) - 1) * 3) + x2) < 0) → ((0 ≤ ((((gI μ 9 0) - 1) * 3) + x2)) ∧ ((((((gI μ 9 0) - 1) * 3) + x2) < 42) ∧ ((zIn (gI μ 10 ((((gI μ 9 0) - 1) * 3) + x2))) ∧ ((zIn x1) ∧ (((gI μ 10 ((((gI μ 9 0) - 1) * 3) + x2)) < x1 → (Q 1 (sI μ 10 ((((gI μ 9 0) - 1) * 3) + x2) ((gI μ 10 ((((gI μ 9 0) - 1) * 3) + x2)) + 1)))) ∧ (¬ ((gI μ 10 ((((gI μ 9 0) - 1) * 3) + x2)) < x1) → (Q 0 μ)))))))))) : kX6_addUpTo d x1 x2 μ Q := by
  refine Cl_of rfl (Nat.le_of_ble_eq_true rfl) rfl ?_
  show Z SS none mX6_addUpTo d 0 0 (qI Q) 0 [some (.ref 9), some (vi x1), some (vi x2), none] [] μ 0 0
  refine Z_aload_n (pc' := 1) dX6_addUpTo_0 rfl rfl ?_
  refine Z_getI' (ji := 0) (pc' := 4) dX6_addUpTo_1 rfl rfl fX6_9 rfl (Or.inl dd_9) ?_
  refine Z_iconst (pc' := 5) dX6_addUpTo_4 rfl ?_
  refine Z_isub (pc' := 6) dX6_addUpTo_5 rfl ?_
  refine Z_iconst (pc' := 7) dX6_addUpTo_6 rfl ?_
  refine Z_imul (pc' := 8) dX6_addUpTo_7 rfl ?_
  refine Z_iload_n (pc' := 9) dX6_addUpTo_8 rfl rfl ?_
  refine Z_iadd (pc' := 10) dX6_addUpTo_9 rfl ?_
  refine Z_istore_n (pc' := 11) (lo' := [some (.ref 9), some (vi x1), some (vi x2), some (vi ((((gI μ 9 0) - 1) * 3) + x2))]) dX6_addUpTo_10 rfl (by decide) rfl ?_
  refine Z_iload_n (pc' := 12) dX6_addUpTo_11 rfl rfl ?_
  have h1 := P.1
  have P := P.2
  refine Z_if_lt (tgt := 25) (pc' := 15) dX6_addUpTo_12 (by decide) rfl h1 (fun c2 => ?_) (fun c2 => ?_)
  · have P := P.1 c2
    refine Z_iconst (pc' := 26) dX6_addUpTo_25 rfl ?_
    exact Z_zreturn dX6_addUpTo_26 rfl (Or.inl rfl) (Nat.le_refl 0) (Nat.le_refl 0) P
  · have P := P.2 c2
    refine Z_aload_n (pc' := 16) dX6_addUpTo_15 rfl rfl ?_
    refine Z_getR (q := 10) (pc' := 19) dX6_addUpTo_16 rfl fX6_15 rfl (Or.inl dd_9) (Or.inl rr_9_1) ?_
    refine Z_iload_n (pc' := 20) dX6_addUpTo_19 rfl rfl ?_
    have h3 := P.1
    have P := P.2
    have h4 := P.1
    have P := P.2
    refine Z_iaload (pc' := 21) dX6_addUpTo_20 rfl (Or.inl dd_10) (Nat.le_of_ble_eq_true rfl) h3 h4 ?_
    refine Z_iload_n (pc' := 22) dX6_addUpTo_21 rfl rfl ?_
    have h5 := P.1
    have P := P.2
    have h6 := P.1
    have P := P.2
    refine Z_icmp_lt (tgt := 27) (pc' := 25) dX6_addUpTo_22 (by decide) rfl h5 h6 (fun c7 => ?_) (fun c7 => ?_)
    · have P := P.1 c7
      refine Z_aload_n (pc' := 28) dX6_addUpTo_27 rfl rfl ?_
      refine Z_getR (q := 10) (pc' := 31) dX6_addUpTo_28 rfl fX6_15 rfl (Or.inl dd_9) (Or.inl rr_9_1) ?_
      refine Z_iload_n (pc' := 32) dX6_addUpTo_31 rfl rfl ?_
      refine Z_dup2 (pc' := 33) dX6_addUpTo_32 rfl rfl rfl ?_
      refine Z_iaload (pc' := 34) dX6_addUpTo_33 rfl (Or.inl dd_10) (Nat.le_of_ble_eq_true rfl) h3 h4 ?_
      refine Z_iconst (pc' := 35) dX6_addUpTo_34 rfl ?_
      refine Z_iadd (pc' := 36) dX6_addUpTo_35 rfl ?_
      refine Z_iastore (pc' := 37) dX6_addUpTo_36 rfl (Or.inl dd_10) (Nat.le_of_ble_eq_true rfl) h3 h4 ?_
      refine Z_iconst (pc' := 38) dX6_addUpTo_37 rfl ?_
      exact Z_zreturn dX6_addUpTo_38 rfl (Or.inr rfl) (Nat.le_refl 0) (Nat.le_refl 0) P
    · have P := P.2 c7
      refine Z_iconst (pc' := 26) dX6_addUpTo_25 rfl ?_
      exact Z_zreturn dX6_addUpTo_26 rfl (Or.inl rfl) (Nat.le_refl 0) (Nat.le_refl 0) P
theorem bX6_goTo {d : Nat} {Q : Int → zMem → Prop} {μ : zMem} {x1 : Int} (P : Q 1 (sI μ 9 2 x1)) : kX6_goTo d x1 μ Q := by
  refine Cl_of rfl (Nat.le_of_ble_eq_true rfl) rfl ?_
  show Z SS none mX6_goTo d 0 0 (qI Q) 0 [some (.ref 9), some (vi x1)] [] μ 0 0
  refine Z_aload_n (pc' := 1) dX6_goTo_0 rfl rfl ?_
  refine Z_iload_n (pc' := 2) dX6_goTo_1 rfl rfl ?_
  refine Z_putI' (ji := 2) (pc' := 5) dX6_goTo_2 rfl rfl fX6_19 (Or.inl rfl) rfl (Or.inl dd_9) ?_
  refine Z_iconst (pc' := 6) dX6_goTo_5 rfl ?_
  exact Z_zreturn dX6_goTo_6 rfl (Or.inr rfl) (Nat.le_refl 0) (Nat.le_refl 0) P
theorem bX6_addLetter {d : Nat} {Q : Int → zMem → Prop} {μ : zMem}  (P : kX6_addUpTo d 12 0 μ (fun (r2 : Int) (μ1 : zMem) => (zIn r2) ∧ ((r2 = 0 → (Q 0 μ1)) ∧ (¬ (r2 = 0) → (kX6_goTo d 1 μ1 (fun (r6 : Int) (μ5 : zMem) => ((zIn r6)) ∧ (Q (if r6 = 0 then 0 else 1) μ5))))))) : kX6_addLetter (d + 1) μ Q := by
  refine Cl_of rfl (Nat.le_of_ble_eq_true rfl) rfl ?_
  show Z SS none mX6_addLetter (d + 1) 0 0 (qI Q) 0 [some (.ref 9)] [] μ 0 0
  refine Z_aload_n (pc' := 1) dX6_addLetter_0 rfl rfl ?_
  refine Z_bipush (pc' := 3) dX6_addLetter_1 rfl rfl ?_
  refine Z_iconst (pc' := 4) dX6_addLetter_3 rfl ?_
  refine Z_callV0 (M' := mX6_addUpTo) (pc' := 7) (st := []) [vi 12, vi 0] dX6_addLetter_4 rfl vX6_addUpTo lX6_46 (Or.inl dd_9) rfl (Nat.le_of_ble_eq_true rfl) (Nat.le_refl 0) (Nat.le_refl 0) ?_
  refine Cl_mono P ?_
  rintro _ μ1 ⟨r2, rfl, P⟩
  show Z SS none mX6_addLetter (d + 1) 0 0 (qI Q) 7 [some (.ref 9)] [vi r2] μ1 0 0
  have h3 := P.1
  have P := P.2
  refine Z_if_eq (tgt := 22) (pc' := 10) dX6_addLetter_7 (by decide) rfl h3 (fun c4 => ?_) (fun c4 => ?_)
  · have P := P.1 c4
    refine Z_iconst (pc' := 23) dX6_addLetter_22 rfl ?_
    exact Z_zreturn dX6_addLetter_23 rfl (Or.inl rfl) (Nat.le_refl 0) (Nat.le_refl 0) P
  · have P := P.2 c4
    refine Z_aload_n (pc' := 11) dX6_addLetter_10 rfl rfl ?_
    refine Z_iconst (pc' := 12) dX6_addLetter_11 rfl ?_
    refine Z_callV0 (M' := mX6_goTo) (pc' := 15) (st := []) [vi 1] dX6_addLetter_12 rfl vX6_goTo lX6_39 (Or.inl dd_9) rfl (Nat.le_of_ble_eq_true rfl) (Nat.le_refl 0) (Nat.le_refl 0) ?_
    refine Cl_mono P ?_
    rintro _ μ5 ⟨r6, rfl, P⟩
    show Z SS none mX6_addLetter (d + 1) 0 0 (qI Q) 15 [some (.ref 9)] [vi r6] μ5 0 0
    have K : ∀ t9 : Int, t9 = (if r6 = 0 then 0 else 1) → Z SS none mX6_addLetter (d + 1) 0 0 (qI Q) 23 [some (.ref 9)] [vi t9] μ5 0 0 := by
      rintro _ rfl
      have P := P.2
      exact Z_zreturn dX6_addLetter_23 rfl (by (repeat' split) <;> simp) (Nat.le_refl 0) (Nat.le_refl 0) P
    have G := P.1
    have h7 := G
    refine Z_if_eq (tgt := 22) (pc' := 18) dX6_addLetter_15 (by decide) rfl h7 (fun c8 => ?_) (fun c8 => ?_)
    · refine Z_iconst (pc' := 23) dX6_addLetter_22 rfl ?_
      exact K _ (by rw [if_pos c8])
    · refine Z_iconst (pc' := 19) dX6_addLetter_18 rfl ?_
      refine Z_goto (tgt := 23) dX6_addLetter_19 (by decide) ?_
      exact K _ (by rw [if_neg c8])
theorem bX6_beginWord {d : Nat} {Q : Int → zMem → Prop} {μ : zMem}  (P : (zIn (gI μ 9 0)) ∧ (((gI μ 9 0) < 14 → ((0 ≤ (((gI μ 9 0) * 3) + 0)) ∧ (((((gI μ 9 0) * 3) + 0) < 42) ∧ ((0 ≤ (((gI μ 9 0) * 3) + 1)) ∧ (((((gI μ 9 0) * 3) + 1) < 42) ∧ (((zIn (gI (sI (sI μ 10 (((gI μ 9 0) * 3) + 0) 1) 10 (((gI μ 9 0) * 3) + 1) 1) 9 2))) ∧ ((0 ≤ (((gI μ 9 0) * 3) + 2)) ∧ (((((gI μ 9 0) * 3) + 2) < 42) ∧ (kX6_goTo d 1 (sI (sI (sI (sI μ 10 (((gI μ 9 0) * 3) + 0) 1) 10 (((gI μ 9 0) * 3) + 1) 1) 10 (((gI μ 9 0) * 3) + 2) (if (gI (sI (sI μ 10 (((gI μ 9 0) * 3) + 0) 1) 10 (((gI μ 9 0) * 3) + 1) 1) 9 2) = 4 then 1 else 0)) 9 0 ((gI (sI (sI (sI μ 10 (((gI μ 9 0) * 3) + 0) 1) 10 (((gI μ 9 0) * 3) + 1) 1) 10 (((gI μ 9 0) * 3) + 2) (if (gI (sI (sI μ 10 (((gI μ 9 0) * 3) + 0) 1) 10 (((gI μ 9 0) * 3) + 1) 1) 9 2) = 4 then 1 else 0)) 9 0) + 1)) (fun (r13 : Int) (μ12 : zMem) => (r13 = 0 ∨ r13 = 1) ∧ (Q r13 μ12))))))))))) ∧ (¬ ((gI μ 9 0) < 14) → (Q 0 μ)))) : kX6_beginWord (d + 1) μ Q := by
  refine Cl_of rfl (Nat.le_of_ble_eq_true rfl) rfl ?_
  show Z SS none mX6_beginWord (d + 1) 0 0 (qI Q) 0 [some (.ref 9), none] [] μ 0 0
  refine Z_aload_n (pc' := 1) dX6_beginWord_0 rfl rfl ?_
  refine Z_getI' (ji := 0) (pc' := 4) dX6_beginWord_1 rfl rfl fX6_9 rfl (Or.inl dd_9) ?_
  refine Z_bipush (pc' := 6) dX6_beginWord_4 rfl rfl ?_
  have h1 := P.1
  have P := P.2
  refine Z_icmp_lt (tgt := 11) (pc' := 9) dX6_beginWord_6 (by decide) rfl h1 (z_lit rfl) (fun c2 => ?_) (fun c2 => ?_)
  · have P := P.1 c2
    refine Z_aload_n (pc' := 12) dX6_beginWord_11 rfl rfl ?_
    refine Z_getI' (ji := 0) (pc' := 15) dX6_beginWord_12 rfl rfl fX6_9 rfl (Or.inl dd_9) ?_
    refine Z_iconst (pc' := 16) dX6_beginWord_15 rfl ?_
    refine Z_imul (pc' := 17) dX6_beginWord_16 rfl ?_
    refine Z_istore_n (pc' := 18) (lo' := [some (.ref 9), some (vi ((gI μ 9 0) * 3))]) dX6_beginWord_17 rfl (by decide) rfl ?_
    refine Z_aload_n (pc' := 19) dX6_beginWord_18 rfl rfl ?_
    refine Z_getR (q := 10) (pc' := 22) dX6_beginWord_19 rfl fX6_15 rfl (Or.inl dd_9) (Or.inl rr_9_1) ?_
    refine Z_iload_n (pc' := 23) dX6_beginWord_22 rfl rfl ?_
    refine Z_iconst (pc' := 24) dX6_beginWord_23 rfl ?_
    refine Z_iadd (pc' := 25) dX6_beginWord_24 rfl ?_
    refine Z_iconst (pc' := 26) dX6_beginWord_25 rfl ?_
    have h3 := P.1
    have P := P.2
    have h4 := P.1
    have P := P.2
    refine Z_iastore (pc' := 27) dX6_beginWord_26 rfl (Or.inl dd_10) (Nat.le_of_ble_eq_true rfl) h3 h4 ?_
    refine Z_aload_n (pc' := 28) dX6_beginWord_27 rfl rfl ?_
    refine Z_getR (q := 10) (pc' := 31) dX6_beginWord_28 rfl fX6_15 rfl (Or.inl dd_9) (Or.inl rr_9_1) ?_
    refine Z_iload_n (pc' := 32) dX6_beginWord_31 rfl rfl ?_
    refine Z_iconst (pc' := 33) dX6_beginWord_32 rfl ?_
    refine Z_iadd (pc' := 34) dX6_beginWord_33 rfl ?_
    refine Z_iconst (pc' := 35) dX6_beginWord_34 rfl ?_
    have h5 := P.1
    have P := P.2
    have h6 := P.1
    have P := P.2
    refine Z_iastore (pc' := 36) dX6_beginWord_35 rfl (Or.inl dd_10) (Nat.le_of_ble_eq_true rfl) h5 h6 ?_
    refine Z_aload_n (pc' := 37) dX6_beginWord_36 rfl rfl ?_
    refine Z_getR (q := 10) (pc' := 40) dX6_beginWord_37 rfl fX6_15 rfl (Or.inl dd_9) (Or.inl rr_9_1) ?_
    refine Z_iload_n (pc' := 41) dX6_beginWord_40 rfl rfl ?_
    refine Z_iconst (pc' := 42) dX6_beginWord_41 rfl ?_
    refine Z_iadd (pc' := 43) dX6_beginWord_42 rfl ?_
    refine Z_aload_n (pc' := 44) dX6_beginWord_43 rfl rfl ?_
    refine Z_getI' (ji := 2) (pc' := 47) dX6_beginWord_44 rfl rfl fX6_19 rfl (Or.inl dd_9) ?_
    refine Z_iconst (pc' := 48) dX6_beginWord_47 rfl ?_
    have K : ∀ t9 : Int, t9 = (if (gI (sI (sI μ 10 (((gI μ 9 0) * 3) + 0) 1) 10 (((gI μ 9 0) * 3) + 1) 1) 9 2) = 4 then 1 else 0) → Z SS none mX6_beginWord (d + 1) 0 0 (qI Q) 56 [some (.ref 9), some (vi ((gI μ 9 0) * 3))] [vi t9, vi (((gI μ 9 0) * 3) + 2), .ref 10] (sI (sI μ 10 (((gI μ 9 0) * 3) + 0) 1) 10 (((gI μ 9 0) * 3) + 1) 1) 0 0 := by
      rintro _ rfl
      have P := P.2
      have h10 := P.1
      have P := P.2
      have h11 := P.1
      have P := P.2
      refine Z_iastore (pc' := 57) dX6_beginWord_56 rfl (Or.inl dd_10) (Nat.le_of_ble_eq_true rfl) h10 h11 ?_
      refine Z_aload_n (pc' := 58) dX6_beginWord_57 rfl rfl ?_
      refine Z_dup (pc' := 59) dX6_beginWord_58 rfl rfl ?_
      refine Z_getI' (ji := 0) (pc' := 62) dX6_beginWord_59 rfl rfl fX6_9 rfl (Or.inl dd_9) ?_
      refine Z_iconst (pc' := 63) dX6_beginWord_62 rfl ?_
      refine Z_iadd (pc' := 64) dX6_beginWord_63 rfl ?_
      refine Z_putI' (ji := 0) (pc' := 67) dX6_beginWord_64 rfl rfl fX6_9 (Or.inl rfl) rfl (Or.inl dd_9) ?_
      refine Z_aload_n (pc' := 68) dX6_beginWord_67 rfl rfl ?_
      refine Z_iconst (pc' := 69) dX6_beginWord_68 rfl ?_
      refine Z_callV0 (M' := mX6_goTo) (pc' := 72) (st := []) [vi 1] dX6_beginWord_69 rfl vX6_goTo lX6_39 (Or.inl dd_9) rfl (Nat.le_of_ble_eq_true rfl) (Nat.le_refl 0) (Nat.le_refl 0) ?_
      refine Cl_mono P ?_
      rintro _ μ12 ⟨r13, rfl, P⟩
      show Z SS none mX6_beginWord (d + 1) 0 0 (qI Q) 72 [some (.ref 9), some (vi ((gI μ 9 0) * 3))] [vi r13] μ12 0 0
      have h14 := P.1
      have P := P.2
      exact Z_zreturn dX6_beginWord_72 rfl h14 (Nat.le_refl 0) (Nat.le_refl 0) P
    have G := P.1
    have h7 := G
    refine Z_icmp_ne (tgt := 55) (pc' := 51) dX6_beginWord_48 (by decide) rfl h7 (z_lit rfl) (fun c8 => ?_) (fun c8 => ?_)
    · refine Z_iconst (pc' := 56) dX6_beginWord_55 rfl ?_
      exact K _ (by rw [if_neg c8])
    · refine Z_iconst (pc' := 52) dX6_beginWord_51 rfl ?_
      refine Z_goto (tgt := 56) dX6_beginWord_52 (by decide) ?_
      exact K _ (by rw [if_pos c8])
  · have P := P.2 c2
    refine Z_iconst (pc' := 10) dX6_beginWord_9 rfl ?_
    exact Z_zreturn dX6_beginWord_10 rfl (Or.inl rfl) (Nat.le_refl 0) (Nat.le_refl 0) P
theorem bX6_addShout {d : Nat} {Q : Int → zMem → Prop} {μ : zMem}  (P : kX6_addUpTo d 3 1 μ (fun (r2 : Int) (μ1 : zMem) => (zIn r2) ∧ ((r2 = 0 → (Q 0 μ1)) ∧ (¬ (r2 = 0) → (kX6_goTo d 2 μ1 (fun (r6 : Int) (μ5 : zMem) => ((zIn r6)) ∧ (Q (if r6 = 0 then 0 else 1) μ5))))))) : kX6_addShout (d + 1) μ Q := by
  refine Cl_of rfl (Nat.le_of_ble_eq_true rfl) rfl ?_
  show Z SS none mX6_addShout (d + 1) 0 0 (qI Q) 0 [some (.ref 9)] [] μ 0 0
  refine Z_aload_n (pc' := 1) dX6_addShout_0 rfl rfl ?_
  refine Z_iconst (pc' := 2) dX6_addShout_1 rfl ?_
  refine Z_iconst (pc' := 3) dX6_addShout_2 rfl ?_
  refine Z_callV0 (M' := mX6_addUpTo) (pc' := 6) (st := []) [vi 3, vi 1] dX6_addShout_3 rfl vX6_addUpTo lX6_46 (Or.inl dd_9) rfl (Nat.le_of_ble_eq_true rfl) (Nat.le_refl 0) (Nat.le_refl 0) ?_
  refine Cl_mono P ?_
  rintro _ μ1 ⟨r2, rfl, P⟩
  show Z SS none mX6_addShout (d + 1) 0 0 (qI Q) 6 [some (.ref 9)] [vi r2] μ1 0 0
  have h3 := P.1
  have P := P.2
  refine Z_if_eq (tgt := 21) (pc' := 9) dX6_addShout_6 (by decide) rfl h3 (fun c4 => ?_) (fun c4 => ?_)
  · have P := P.1 c4
    refine Z_iconst (pc' := 22) dX6_addShout_21 rfl ?_
    exact Z_zreturn dX6_addShout_22 rfl (Or.inl rfl) (Nat.le_refl 0) (Nat.le_refl 0) P
  · have P := P.2 c4
    refine Z_aload_n (pc' := 10) dX6_addShout_9 rfl rfl ?_
    refine Z_iconst (pc' := 11) dX6_addShout_10 rfl ?_
    refine Z_callV0 (M' := mX6_goTo) (pc' := 14) (st := []) [vi 2] dX6_addShout_11 rfl vX6_goTo lX6_39 (Or.inl dd_9) rfl (Nat.le_of_ble_eq_true rfl) (Nat.le_refl 0) (Nat.le_refl 0) ?_
    refine Cl_mono P ?_
    rintro _ μ5 ⟨r6, rfl, P⟩
    show Z SS none mX6_addShout (d + 1) 0 0 (qI Q) 14 [some (.ref 9)] [vi r6] μ5 0 0
    have K : ∀ t9 : Int, t9 = (if r6 = 0 then 0 else 1) → Z SS none mX6_addShout (d + 1) 0 0 (qI Q) 22 [some (.ref 9)] [vi t9] μ5 0 0 := by
      rintro _ rfl
      have P := P.2
      exact Z_zreturn dX6_addShout_22 rfl (by (repeat' split) <;> simp) (Nat.le_refl 0) (Nat.le_refl 0) P
    have G := P.1
    have h7 := G
    refine Z_if_eq (tgt := 21) (pc' := 17) dX6_addShout_14 (by decide) rfl h7 (fun c8 => ?_) (fun c8 => ?_)
    · refine Z_iconst (pc' := 22) dX6_addShout_21 rfl ?_
      exact K _ (by rw [if_pos c8])
    · refine Z_iconst (pc' := 18) dX6_addShout_17 rfl ?_
      refine Z_goto (tgt := 22) dX6_addShout_18 (by decide) ?_
      exact K _ (by rw [if_neg c8])
theorem bX6_accepts {d : Nat} {Q : Int → zMem → Prop} {μ : zMem} {x1 : Int} (P : kX6_isLetter d x1 μ (fun (r2 : Int) (μ1 : zMem) => (zIn r2) ∧ ((r2 = 0 → ((zIn x1) ∧ ((x1 = 32 → (((zIn (gI μ1 9 2))) ∧ (kX6_goTo d (if (gI μ1 9 2) = 1 then 3 else (if (gI μ1 9 2) = 2 then 3 else (gI μ1 9 2))) μ1 (fun (r12 : Int) (μ11 : zMem) => (r12 = 0 ∨ r12 = 1) ∧ (Q r12 μ11))))) ∧ (¬ (x1 = 32) → ((x1 = 33 → ((zIn (gI μ1 9 2)) ∧ (((gI μ1 9 2) = 1 → (kX6_addShout d μ1 (fun (r18 : Int) (μ17 : zMem) => ((zIn r18)) ∧ (Q (if r18 = 0 then 0 else 1) μ17)))) ∧ (¬ ((gI μ1 9 2) = 1) → (((gI μ1 9 2) = 2 → (kX6_addShout d μ1 (fun (r24 : Int) (μ23 : zMem) => ((zIn r24)) ∧ (Q (if r24 = 0 then 0 else 1) μ23)))) ∧ (¬ ((gI μ1 9 2) = 2) → (Q 0 μ1))))))) ∧ (¬ (x1 = 33) → ((x1 = 47 → ((zIn (gI μ1 9 2)) ∧ (((gI μ1 9 2) = 0 → (Q 0 μ1)) ∧ (¬ ((gI μ1 9 2) = 0) → (((gI μ1 9 2) = 4 → (Q 0 μ1)) ∧ (¬ ((gI μ1 9 2) = 4) → (kX6_goTo d 4 μ1 (fun (r33 : Int) (μ32 : zMem) => ((zIn r33)) ∧ (Q (if r33 = 0 then 0 else 1) μ32))))))))) ∧ (¬ (x1 = 47) → (Q 0 μ1))))))))) ∧ (¬ (r2 = 0) → ((zIn (gI μ1 9 2)) ∧ (((gI μ1 9 2) = 1 → (kX6_addLetter d μ1 (fun (r40 : Int) (μ39 : zMem) => (r40 = 0 ∨ r40 = 1) ∧ (Q r40 μ39)))) ∧ (¬ ((gI μ1 9 2) = 1) → (((gI μ1 9 2) = 2 → (Q 0 μ1)) ∧ (¬ ((gI μ1 9 2) = 2) → (kX6_beginWord d μ1 (fun (r44 : Int) (μ43 : zMem) => ((zIn r44)) ∧ (Q (if r44 = 0 then 0 else 1) μ43)))))))))))) : kX6_accepts (d + 1) x1 μ Q := by
  refine Cl_of rfl (Nat.le_of_ble_eq_true rfl) rfl ?_
  show Z SS none mX6_accepts (d + 1) 0 0 (qI Q) 0 [some (.ref 9), some (vi x1)] [] μ 0 0
  refine Z_iload_n (pc' := 1) dX6_accepts_0 rfl rfl ?_
  refine Z_callS0 (M' := mX6_isLetter) (pc' := 4) (st := []) [vi x1] dX6_accepts_1 rfl sX6_isLetter lX6_26 rfl (Nat.le_of_ble_eq_true rfl) (Nat.le_refl 0) (Nat.le_refl 0) ?_
  refine Cl_mono P ?_
  rintro _ μ1 ⟨r2, rfl, P⟩
  show Z SS none mX6_accepts (d + 1) 0 0 (qI Q) 4 [some (.ref 9), some (vi x1)] [vi r2] μ1 0 0
  have h3 := P.1
  have P := P.2
  refine Z_if_eq (tgt := 43) (pc' := 7) dX6_accepts_4 (by decide) rfl h3 (fun c4 => ?_) (fun c4 => ?_)
  · have P := P.1 c4
    refine Z_iload_n (pc' := 44) dX6_accepts_43 rfl rfl ?_
    have h5 := P.1
    have P := P.2
    by_cases c6 : x1 = 32
    · have P := P.1 c6
      refine Z_lookup (tgt := 138) dX6_accepts_44 h5 (by decide) (by rw [c6] <;> rfl) (by decide) ?_
      refine Z_aload_n (pc' := 139) dX6_accepts_138 rfl rfl ?_
      refine Z_aload_n (pc' := 140) dX6_accepts_139 rfl rfl ?_
      refine Z_getI' (ji := 2) (pc' := 143) dX6_accepts_140 rfl rfl fX6_19 rfl (Or.inl dd_9) ?_
      refine Z_iconst (pc' := 144) dX6_accepts_143 rfl ?_
      have K : ∀ t10 : Int, t10 = (if (gI μ1 9 2) = 1 then 3 else (if (gI μ1 9 2) = 2 then 3 else (gI μ1 9 2))) → Z SS none mX6_accepts (d + 1) 0 0 (qI Q) 163 [some (.ref 9), some (vi x1)] [vi t10, .ref 9] μ1 0 0 := by
        rintro _ rfl
        have P := P.2
        refine Z_callV0 (M' := mX6_goTo) (pc' := 166) (st := []) [vi (if (gI μ1 9 2) = 1 then 3 else (if (gI μ1 9 2) = 2 then 3 else (gI μ1 9 2)))] dX6_accepts_163 rfl vX6_goTo lX6_39 (Or.inl dd_9) rfl (Nat.le_of_ble_eq_true rfl) (Nat.le_refl 0) (Nat.le_refl 0) ?_
        refine Cl_mono P ?_
        rintro _ μ11 ⟨r12, rfl, P⟩
        show Z SS none mX6_accepts (d + 1) 0 0 (qI Q) 166 [some (.ref 9), some (vi x1)] [vi r12] μ11 0 0
        have h13 := P.1
        have P := P.2
        exact Z_zreturn dX6_accepts_166 rfl h13 (Nat.le_refl 0) (Nat.le_refl 0) P
      have G := P.1
      have h7 := G
      refine Z_icmp_eq (tgt := 155) (pc' := 147) dX6_accepts_144 (by decide) rfl h7 (z_lit rfl) (fun c8 => ?_) (fun c8 => ?_)
      · refine Z_iconst (pc' := 156) dX6_accepts_155 rfl ?_
        refine Z_goto (tgt := 163) dX6_accepts_156 (by decide) ?_
        exact K _ (by rw [if_pos c8])
      · refine Z_aload_n (pc' := 148) dX6_accepts_147 rfl rfl ?_
        refine Z_getI' (ji := 2) (pc' := 151) dX6_accepts_148 rfl rfl fX6_19 rfl (Or.inl dd_9) ?_
        refine Z_iconst (pc' := 152) dX6_accepts_151 rfl ?_
        refine Z_icmp_ne (tgt := 159) (pc' := 155) dX6_accepts_152 (by decide) rfl h7 (z_lit rfl) (fun c9 => ?_) (fun c9 => ?_)
        · refine Z_aload_n (pc' := 160) dX6_accepts_159 rfl rfl ?_
          refine Z_getI' (ji := 2) (pc' := 163) dX6_accepts_160 rfl rfl fX6_19 rfl (Or.inl dd_9) ?_
          exact K _ (by rw [if_neg c8, if_neg c9])
        · refine Z_iconst (pc' := 156) dX6_accepts_155 rfl ?_
          refine Z_goto (tgt := 163) dX6_accepts_156 (by decide) ?_
          exact K _ (by rw [if_neg c8, if_pos c9])
    · have P := P.2 c6
      by_cases c14 : x1 = 33
      · have P := P.1 c14
        refine Z_lookup (tgt := 80) dX6_accepts_44 h5 (by decide) (by rw [c14] <;> rfl) (by decide) ?_
        refine Z_aload_n (pc' := 81) dX6_accepts_80 rfl rfl ?_
        refine Z_getI' (ji := 2) (pc' := 84) dX6_accepts_81 rfl rfl fX6_19 rfl (Or.inl dd_9) ?_
        refine Z_iconst (pc' := 85) dX6_accepts_84 rfl ?_
        have h15 := P.1
        have P := P.2
        refine Z_icmp_eq (tgt := 96) (pc' := 88) dX6_accepts_85 (by decide) rfl h15 (z_lit rfl) (fun c16 => ?_) (fun c16 => ?_)
        · have P := P.1 c16
          refine Z_aload_n (pc' := 97) dX6_accepts_96 rfl rfl ?_
          refine Z_callV0 (M' := mX6_addShout) (pc' := 100) (st := []) [] dX6_accepts_97 rfl vX6_addShout lX6_36 (Or.inl dd_9) rfl (Nat.le_of_ble_eq_true rfl) (Nat.le_refl 0) (Nat.le_refl 0) ?_
          refine Cl_mono P ?_
          rintro _ μ17 ⟨r18, rfl, P⟩
          show Z SS none mX6_accepts (d + 1) 0 0 (qI Q) 100 [some (.ref 9), some (vi x1)] [vi r18] μ17 0 0
          have K : ∀ t21 : Int, t21 = (if r18 = 0 then 0 else 1) → Z SS none mX6_accepts (d + 1) 0 0 (qI Q) 108 [some (.ref 9), some (vi x1)] [vi t21] μ17 0 0 := by
            rintro _ rfl
            have P := P.2
            exact Z_zreturn dX6_accepts_108 rfl (by (repeat' split) <;> simp) (Nat.le_refl 0) (Nat.le_refl 0) P
          have G := P.1
          have h19 := G
          refine Z_if_eq (tgt := 107) (pc' := 103) dX6_accepts_100 (by decide) rfl h19 (fun c20 => ?_) (fun c20 => ?_)
          · refine Z_iconst (pc' := 108) dX6_accepts_107 rfl ?_
            exact K _ (by rw [if_pos c20])
          · refine Z_iconst (pc' := 104) dX6_accepts_103 rfl ?_
            refine Z_goto (tgt := 108) dX6_accepts_104 (by decide) ?_
            exact K _ (by rw [if_neg c20])
        · have P := P.2 c16
          refine Z_aload_n (pc' := 89) dX6_accepts_88 rfl rfl ?_
          refine Z_getI' (ji := 2) (pc' := 92) dX6_accepts_89 rfl rfl fX6_19 rfl (Or.inl dd_9) ?_
          refine Z_iconst (pc' := 93) dX6_accepts_92 rfl ?_
          refine Z_icmp_ne (tgt := 107) (pc' := 96) dX6_accepts_93 (by decide) rfl h15 (z_lit rfl) (fun c22 => ?_) (fun c22 => ?_)
          · have P := P.2 c22
            refine Z_iconst (pc' := 108) dX6_accepts_107 rfl ?_
            exact Z_zreturn dX6_accepts_108 rfl (Or.inl rfl) (Nat.le_refl 0) (Nat.le_refl 0) P
          · have P := P.1 c22
            refine Z_aload_n (pc' := 97) dX6_accepts_96 rfl rfl ?_
            refine Z_callV0 (M' := mX6_addShout) (pc' := 100) (st := []) [] dX6_accepts_97 rfl vX6_addShout lX6_36 (Or.inl dd_9) rfl (Nat.le_of_ble_eq_true rfl) (Nat.le_refl 0) (Nat.le_refl 0) ?_
            refine Cl_mono P ?_
            rintro _ μ23 ⟨r24, rfl, P⟩
            show Z SS none mX6_accepts (d + 1) 0 0 (qI Q) 100 [some (.ref 9), some (vi x1)] [vi r24] μ23 0 0
            have K : ∀ t27 : Int, t27 = (if r24 = 0 then 0 else 1) → Z SS none mX6_accepts (d + 1) 0 0 (qI Q) 108 [some (.ref 9), some (vi x1)] [vi t27] μ23 0 0 := by
              rintro _ rfl
              have P := P.2
              exact Z_zreturn dX6_accepts_108 rfl (by (repeat' split) <;> simp) (Nat.le_refl 0) (Nat.le_refl 0) P
            have G := P.1
            have h25 := G
            refine Z_if_eq (tgt := 107) (pc' := 103) dX6_accepts_100 (by decide) rfl h25 (fun c26 => ?_) (fun c26 => ?_)
            · refine Z_iconst (pc' := 108) dX6_accepts_107 rfl ?_
              exact K _ (by rw [if_pos c26])
            · refine Z_iconst (pc' := 104) dX6_accepts_103 rfl ?_
              refine Z_goto (tgt := 108) dX6_accepts_104 (by decide) ?_
              exact K _ (by rw [if_neg c26])
      · have P := P.2 c14
        by_cases c28 : x1 = 47
        · have P := P.1 c28
          refine Z_lookup (tgt := 109) dX6_accepts_44 h5 (by decide) (by rw [c28] <;> rfl) (by decide) ?_
          refine Z_aload_n (pc' := 110) dX6_accepts_109 rfl rfl ?_
          refine Z_getI' (ji := 2) (pc' := 113) dX6_accepts_110 rfl rfl fX6_19 rfl (Or.inl dd_9) ?_
          have h29 := P.1
          have P := P.2
          refine Z_if_eq (tgt := 136) (pc' := 116) dX6_accepts_113 (by decide) rfl h29 (fun c30 => ?_) (fun c30 => ?_)
          · have P := P.1 c30
            refine Z_iconst (pc' := 137) dX6_accepts_136 rfl ?_
            exact Z_zreturn dX6_accepts_137 rfl (Or.inl rfl) (Nat.le_refl 0) (Nat.le_refl 0) P
          · have P := P.2 c30
            refine Z_aload_n (pc' := 117) dX6_accepts_116 rfl rfl ?_
            refine Z_getI' (ji := 2) (pc' := 120) dX6_accepts_117 rfl rfl fX6_19 rfl (Or.inl dd_9) ?_
            refine Z_iconst (pc' := 121) dX6_accepts_120 rfl ?_
            refine Z_icmp_eq (tgt := 136) (pc' := 124) dX6_accepts_121 (by decide) rfl h29 (z_lit rfl) (fun c31 => ?_) (fun c31 => ?_)
            · have P := P.1 c31
              refine Z_iconst (pc' := 137) dX6_accepts_136 rfl ?_
              exact Z_zreturn dX6_accepts_137 rfl (Or.inl rfl) (Nat.le_refl 0) (Nat.le_refl 0) P
            · have P := P.2 c31
              refine Z_aload_n (pc' := 125) dX6_accepts_124 rfl rfl ?_
              refine Z_iconst (pc' := 126) dX6_accepts_125 rfl ?_
              refine Z_callV0 (M' := mX6_goTo) (pc' := 129) (st := []) [vi 4] dX6_accepts_126 rfl vX6_goTo lX6_39 (Or.inl dd_9) rfl (Nat.le_of_ble_eq_true rfl) (Nat.le_refl 0) (Nat.le_refl 0) ?_
              refine Cl_mono P ?_
              rintro _ μ32 ⟨r33, rfl, P⟩
              show Z SS none mX6_accepts (d + 1) 0 0 (qI Q) 129 [some (.ref 9), some (vi x1)] [vi r33] μ32 0 0
              have K : ∀ t36 : Int, t36 = (if r33 = 0 then 0 else 1) → Z SS none mX6_accepts (d + 1) 0 0 (qI Q) 137 [some (.ref 9), some (vi x1)] [vi t36] μ32 0 0 := by
                rintro _ rfl
                have P := P.2
                exact Z_zreturn dX6_accepts_137 rfl (by (repeat' split) <;> simp) (Nat.le_refl 0) (Nat.le_refl 0) P
              have G := P.1
              have h34 := G
              refine Z_if_eq (tgt := 136) (pc' := 132) dX6_accepts_129 (by decide) rfl h34 (fun c35 => ?_) (fun c35 => ?_)
              · refine Z_iconst (pc' := 137) dX6_accepts_136 rfl ?_
                exact K _ (by rw [if_pos c35])
              · refine Z_iconst (pc' := 133) dX6_accepts_132 rfl ?_
                refine Z_goto (tgt := 137) dX6_accepts_133 (by decide) ?_
                exact K _ (by rw [if_neg c35])
        · have P := P.2 c28
          refine Z_lookup (tgt := 167) (off := 123) dX6_accepts_44 h5 (by decide) (by simp [Op.lookupswitch.offset, z_ns c6, z_ns c14, z_ns c28]) (by decide) ?_
          refine Z_iconst (pc' := 168) dX6_accepts_167 rfl ?_
          exact Z_zreturn dX6_accepts_168 rfl (Or.inl rfl) (Nat.le_refl 0) (Nat.le_refl 0) P
  · have P := P.2 c4
    refine Z_aload_n (pc' := 8) dX6_accepts_7 rfl rfl ?_
    refine Z_getI' (ji := 2) (pc' := 11) dX6_accepts_8 rfl rfl fX6_19 rfl (Or.inl dd_9) ?_
    refine Z_iconst (pc' := 12) dX6_accepts_11 rfl ?_
    have h37 := P.1
    have P := P.2
    refine Z_icmp_ne (tgt := 22) (pc' := 15) dX6_accepts_12 (by decide) rfl h37 (z_lit rfl) (fun c38 => ?_) (fun c38 => ?_)
    · have P := P.2 c38
      refine Z_aload_n (pc' := 23) dX6_accepts_22 rfl rfl ?_
      refine Z_getI' (ji := 2) (pc' := 26) dX6_accepts_23 rfl rfl fX6_19 rfl (Or.inl dd_9) ?_
      refine Z_iconst (pc' := 27) dX6_accepts_26 rfl ?_
      refine Z_icmp_eq (tgt := 41) (pc' := 30) dX6_accepts_27 (by decide) rfl h37 (z_lit rfl) (fun c42 => ?_) (fun c42 => ?_)
      · have P := P.1 c42
        refine Z_iconst (pc' := 42) dX6_accepts_41 rfl ?_
        exact Z_zreturn dX6_accepts_42 rfl (Or.inl rfl) (Nat.le_refl 0) (Nat.le_refl 0) P
      · have P := P.2 c42
        refine Z_aload_n (pc' := 31) dX6_accepts_30 rfl rfl ?_
        refine Z_callV0 (M' := mX6_beginWord) (pc' := 34) (st := []) [] dX6_accepts_31 rfl vX6_beginWord lX6_33 (Or.inl dd_9) rfl (Nat.le_of_ble_eq_true rfl) (Nat.le_refl 0) (Nat.le_refl 0) ?_
        refine Cl_mono P ?_
        rintro _ μ43 ⟨r44, rfl, P⟩
        show Z SS none mX6_accepts (d + 1) 0 0 (qI Q) 34 [some (.ref 9), some (vi x1)] [vi r44] μ43 0 0
        have K : ∀ t47 : Int, t47 = (if r44 = 0 then 0 else 1) → Z SS none mX6_accepts (d + 1) 0 0 (qI Q) 42 [some (.ref 9), some (vi x1)] [vi t47] μ43 0 0 := by
          rintro _ rfl
          have P := P.2
          exact Z_zreturn dX6_accepts_42 rfl (by (repeat' split) <;> simp) (Nat.le_refl 0) (Nat.le_refl 0) P
        have G := P.1
        have h45 := G
        refine Z_if_eq (tgt := 41) (pc' := 37) dX6_accepts_34 (by decide) rfl h45 (fun c46 => ?_) (fun c46 => ?_)
        · refine Z_iconst (pc' := 42) dX6_accepts_41 rfl ?_
          exact K _ (by rw [if_pos c46])
        · refine Z_iconst (pc' := 38) dX6_accepts_37 rfl ?_
          refine Z_goto (tgt := 42) dX6_accepts_38 (by decide) ?_
          exact K _ (by rw [if_neg c46])
    · have P := P.1 c38
      refine Z_aload_n (pc' := 16) dX6_accepts_15 rfl rfl ?_
      refine Z_callV0 (M' := mX6_addLetter) (pc' := 19) (st := []) [] dX6_accepts_16 rfl vX6_addLetter lX6_29 (Or.inl dd_9) rfl (Nat.le_of_ble_eq_true rfl) (Nat.le_refl 0) (Nat.le_refl 0) ?_
      refine Cl_mono P ?_
      rintro _ μ39 ⟨r40, rfl, P⟩
      show Z SS none mX6_accepts (d + 1) 0 0 (qI Q) 19 [some (.ref 9), some (vi x1)] [vi r40] μ39 0 0
      refine Z_goto (tgt := 42) dX6_accepts_19 (by decide) ?_
      have h41 := P.1
      have P := P.2
      exact Z_zreturn dX6_accepts_42 rfl h41 (Nat.le_refl 0) (Nat.le_refl 0) P
