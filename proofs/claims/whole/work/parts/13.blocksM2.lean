theorem bX8_clearWords {d : Nat} {Q : Int → zMem → Prop} {μ : zMem}  (P : kX8_records d μ (fun μ1 : zMem => Q (gI μ1 55 31) (sI μ1 55 31 0))) : kX8_clearWords (d + 1) μ Q := by
  refine Cl_of rfl (Nat.le_of_ble_eq_true rfl) rfl ?_
  show Z SS none mX8_clearWords (d + 1) 0 0 (qI Q) 0 [some (.ref 54), none] [] μ 0 0
  refine Z_aload_n (pc' := 1) dX8_clearWords_0 rfl rfl ?_
  refine Z_callV0 (M' := mX8_records) (pc' := 4) (st := []) [] dX8_clearWords_1 rfl vX8_records lX8_68 (Or.inl dd_54) rfl (Nat.le_of_ble_eq_true rfl) (Nat.le_refl 0) (Nat.le_refl 0) ?_
  refine Cl_mono P ?_
  rintro _ μ1 ⟨rfl, P⟩
  show Z SS none mX8_clearWords (d + 1) 0 0 (qI Q) 4 [some (.ref 54), none] [] μ1 0 0
  refine Z_aload_n (pc' := 5) dX8_clearWords_4 rfl rfl ?_
  refine Z_getR (q := 55) (pc' := 8) dX8_clearWords_5 rfl fX8_7 rfl (Or.inl dd_54) (Or.inl rr_54_0) ?_
  refine Z_bipush (pc' := 10) dX8_clearWords_8 rfl rfl ?_
  refine Z_iaload (pc' := 11) dX8_clearWords_10 rfl (Or.inl dd_55) (Nat.le_of_ble_eq_true rfl) (by decide) (by decide) ?_
  refine Z_istore_n (pc' := 12) (lo' := [some (.ref 54), some (vi (gI μ1 55 31))]) dX8_clearWords_11 rfl (by decide) rfl ?_
  refine Z_aload_n (pc' := 13) dX8_clearWords_12 rfl rfl ?_
  refine Z_getR (q := 55) (pc' := 16) dX8_clearWords_13 rfl fX8_7 rfl (Or.inl dd_54) (Or.inl rr_54_0) ?_
  refine Z_bipush (pc' := 18) dX8_clearWords_16 rfl rfl ?_
  refine Z_iconst (pc' := 19) dX8_clearWords_18 rfl ?_
  refine Z_iastore (pc' := 20) dX8_clearWords_19 rfl (Or.inl dd_55) (Nat.le_of_ble_eq_true rfl) (by decide) (by decide) ?_
  refine Z_iload_n (pc' := 21) dX8_clearWords_20 rfl rfl ?_
  exact Z_ireturn dX8_clearWords_21 rfl (Nat.le_refl 0) (Nat.le_refl 0) P
theorem bX8_setSizes {d : Nat} {Q : Int → zMem → Prop} {μ : zMem} {x1 : Int} {x2 : Int} {x3 : Int} {x4 : Int} (P : kX8_in d x1 0 4 μ (fun (r2 : Int) (μ1 : zMem) => (zIn r2) ∧ ((r2 = 0 → (Q (-3) μ1)) ∧ (¬ (r2 = 0) → (kX8_in d x2 1 20 μ1 (fun (r6 : Int) (μ5 : zMem) => (zIn r6) ∧ ((r6 = 0 → (Q (-3) μ5)) ∧ (¬ (r6 = 0) → (kX8_in d x3 1 20 μ5 (fun (r10 : Int) (μ9 : zMem) => (zIn r10) ∧ ((r10 = 0 → (Q (-3) μ9)) ∧ (¬ (r10 = 0) → (kX8_in d x4 1 20 μ9 (fun (r14 : Int) (μ13 : zMem) => (zIn r14) ∧ ((r14 = 0 → (Q (-3) μ13)) ∧ (¬ (r14 = 0) → (kX8_records d μ13 (fun μ17 : zMem => Q (gI μ17 55 74) (sI (sI (sI (sI μ17 55 74 x1) 55 75 x2) 55 76 x3) 55 77 x4))))))))))))))))))) : kX8_setSizes (d + 1) x1 x2 x3 x4 μ Q := by
  refine Cl_of rfl (Nat.le_of_ble_eq_true rfl) rfl ?_
  show Z SS none mX8_setSizes (d + 1) 0 0 (qI Q) 0 [some (.ref 54), some (vi x1), some (vi x2), some (vi x3), some (vi x4), none] [] μ 0 0
  refine Z_iload_n (pc' := 1) dX8_setSizes_0 rfl rfl ?_
  refine Z_iconst (pc' := 2) dX8_setSizes_1 rfl ?_
  refine Z_iconst (pc' := 3) dX8_setSizes_2 rfl ?_
  refine Z_callS0 (M' := mX8_in) (pc' := 6) (st := []) [vi x1, vi 0, vi 4] dX8_setSizes_3 rfl sX8_in lX8_53 rfl (Nat.le_of_ble_eq_true rfl) (Nat.le_refl 0) (Nat.le_refl 0) ?_
  refine Cl_mono P ?_
  rintro _ μ1 ⟨r2, rfl, P⟩
  show Z SS none mX8_setSizes (d + 1) 0 0 (qI Q) 6 [some (.ref 54), some (vi x1), some (vi x2), some (vi x3), some (vi x4), none] [vi r2] μ1 0 0
  have h3 := P.1
  have P := P.2
  refine Z_if_eq (tgt := 40) (pc' := 9) dX8_setSizes_6 (by decide) rfl h3 (fun c4 => ?_) (fun c4 => ?_)
  · have P := P.1 c4
    refine Z_bipush (pc' := 42) dX8_setSizes_40 rfl rfl ?_
    exact Z_ireturn dX8_setSizes_42 rfl (Nat.le_refl 0) (Nat.le_refl 0) P
  · have P := P.2 c4
    refine Z_iload_n (pc' := 10) dX8_setSizes_9 rfl rfl ?_
    refine Z_iconst (pc' := 11) dX8_setSizes_10 rfl ?_
    refine Z_bipush (pc' := 13) dX8_setSizes_11 rfl rfl ?_
    refine Z_callS0 (M' := mX8_in) (pc' := 16) (st := []) [vi x2, vi 1, vi 20] dX8_setSizes_13 rfl sX8_in lX8_53 rfl (Nat.le_of_ble_eq_true rfl) (Nat.le_refl 0) (Nat.le_refl 0) ?_
    refine Cl_mono P ?_
    rintro _ μ5 ⟨r6, rfl, P⟩
    show Z SS none mX8_setSizes (d + 1) 0 0 (qI Q) 16 [some (.ref 54), some (vi x1), some (vi x2), some (vi x3), some (vi x4), none] [vi r6] μ5 0 0
    have h7 := P.1
    have P := P.2
    refine Z_if_eq (tgt := 40) (pc' := 19) dX8_setSizes_16 (by decide) rfl h7 (fun c8 => ?_) (fun c8 => ?_)
    · have P := P.1 c8
      refine Z_bipush (pc' := 42) dX8_setSizes_40 rfl rfl ?_
      exact Z_ireturn dX8_setSizes_42 rfl (Nat.le_refl 0) (Nat.le_refl 0) P
    · have P := P.2 c8
      refine Z_iload_n (pc' := 20) dX8_setSizes_19 rfl rfl ?_
      refine Z_iconst (pc' := 21) dX8_setSizes_20 rfl ?_
      refine Z_bipush (pc' := 23) dX8_setSizes_21 rfl rfl ?_
      refine Z_callS0 (M' := mX8_in) (pc' := 26) (st := []) [vi x3, vi 1, vi 20] dX8_setSizes_23 rfl sX8_in lX8_53 rfl (Nat.le_of_ble_eq_true rfl) (Nat.le_refl 0) (Nat.le_refl 0) ?_
      refine Cl_mono P ?_
      rintro _ μ9 ⟨r10, rfl, P⟩
      show Z SS none mX8_setSizes (d + 1) 0 0 (qI Q) 26 [some (.ref 54), some (vi x1), some (vi x2), some (vi x3), some (vi x4), none] [vi r10] μ9 0 0
      have h11 := P.1
      have P := P.2
      refine Z_if_eq (tgt := 40) (pc' := 29) dX8_setSizes_26 (by decide) rfl h11 (fun c12 => ?_) (fun c12 => ?_)
      · have P := P.1 c12
        refine Z_bipush (pc' := 42) dX8_setSizes_40 rfl rfl ?_
        exact Z_ireturn dX8_setSizes_42 rfl (Nat.le_refl 0) (Nat.le_refl 0) P
      · have P := P.2 c12
        refine Z_iload (pc' := 31) dX8_setSizes_29 rfl rfl ?_
        refine Z_iconst (pc' := 32) dX8_setSizes_31 rfl ?_
        refine Z_bipush (pc' := 34) dX8_setSizes_32 rfl rfl ?_
        refine Z_callS0 (M' := mX8_in) (pc' := 37) (st := []) [vi x4, vi 1, vi 20] dX8_setSizes_34 rfl sX8_in lX8_53 rfl (Nat.le_of_ble_eq_true rfl) (Nat.le_refl 0) (Nat.le_refl 0) ?_
        refine Cl_mono P ?_
        rintro _ μ13 ⟨r14, rfl, P⟩
        show Z SS none mX8_setSizes (d + 1) 0 0 (qI Q) 37 [some (.ref 54), some (vi x1), some (vi x2), some (vi x3), some (vi x4), none] [vi r14] μ13 0 0
        have h15 := P.1
        have P := P.2
        refine Z_if_ne (tgt := 43) (pc' := 40) dX8_setSizes_37 (by decide) rfl h15 (fun c16 => ?_) (fun c16 => ?_)
        · have P := P.2 c16
          refine Z_aload_n (pc' := 44) dX8_setSizes_43 rfl rfl ?_
          refine Z_callV0 (M' := mX8_records) (pc' := 47) (st := []) [] dX8_setSizes_44 rfl vX8_records lX8_68 (Or.inl dd_54) rfl (Nat.le_of_ble_eq_true rfl) (Nat.le_refl 0) (Nat.le_refl 0) ?_
          refine Cl_mono P ?_
          rintro _ μ17 ⟨rfl, P⟩
          show Z SS none mX8_setSizes (d + 1) 0 0 (qI Q) 47 [some (.ref 54), some (vi x1), some (vi x2), some (vi x3), some (vi x4), none] [] μ17 0 0
          refine Z_aload_n (pc' := 48) dX8_setSizes_47 rfl rfl ?_
          refine Z_getR (q := 55) (pc' := 51) dX8_setSizes_48 rfl fX8_7 rfl (Or.inl dd_54) (Or.inl rr_54_0) ?_
          refine Z_bipush (pc' := 53) dX8_setSizes_51 rfl rfl ?_
          refine Z_iaload (pc' := 54) dX8_setSizes_53 rfl (Or.inl dd_55) (Nat.le_of_ble_eq_true rfl) (by decide) (by decide) ?_
          refine Z_istore (pc' := 56) (lo' := [some (.ref 54), some (vi x1), some (vi x2), some (vi x3), some (vi x4), some (vi (gI μ17 55 74))]) dX8_setSizes_54 rfl (by decide) rfl ?_
          refine Z_aload_n (pc' := 57) dX8_setSizes_56 rfl rfl ?_
          refine Z_getR (q := 55) (pc' := 60) dX8_setSizes_57 rfl fX8_7 rfl (Or.inl dd_54) (Or.inl rr_54_0) ?_
          refine Z_bipush (pc' := 62) dX8_setSizes_60 rfl rfl ?_
          refine Z_iload_n (pc' := 63) dX8_setSizes_62 rfl rfl ?_
          refine Z_iastore (pc' := 64) dX8_setSizes_63 rfl (Or.inl dd_55) (Nat.le_of_ble_eq_true rfl) (by decide) (by decide) ?_
          refine Z_aload_n (pc' := 65) dX8_setSizes_64 rfl rfl ?_
          refine Z_getR (q := 55) (pc' := 68) dX8_setSizes_65 rfl fX8_7 rfl (Or.inl dd_54) (Or.inl rr_54_0) ?_
          refine Z_bipush (pc' := 70) dX8_setSizes_68 rfl rfl ?_
          refine Z_iload_n (pc' := 71) dX8_setSizes_70 rfl rfl ?_
          refine Z_iastore (pc' := 72) dX8_setSizes_71 rfl (Or.inl dd_55) (Nat.le_of_ble_eq_true rfl) (by decide) (by decide) ?_
          refine Z_aload_n (pc' := 73) dX8_setSizes_72 rfl rfl ?_
          refine Z_getR (q := 55) (pc' := 76) dX8_setSizes_73 rfl fX8_7 rfl (Or.inl dd_54) (Or.inl rr_54_0) ?_
          refine Z_bipush (pc' := 78) dX8_setSizes_76 rfl rfl ?_
          refine Z_iload_n (pc' := 79) dX8_setSizes_78 rfl rfl ?_
          refine Z_iastore (pc' := 80) dX8_setSizes_79 rfl (Or.inl dd_55) (Nat.le_of_ble_eq_true rfl) (by decide) (by decide) ?_
          refine Z_aload_n (pc' := 81) dX8_setSizes_80 rfl rfl ?_
          refine Z_getR (q := 55) (pc' := 84) dX8_setSizes_81 rfl fX8_7 rfl (Or.inl dd_54) (Or.inl rr_54_0) ?_
          refine Z_bipush (pc' := 86) dX8_setSizes_84 rfl rfl ?_
          refine Z_iload (pc' := 88) dX8_setSizes_86 rfl rfl ?_
          refine Z_iastore (pc' := 89) dX8_setSizes_88 rfl (Or.inl dd_55) (Nat.le_of_ble_eq_true rfl) (by decide) (by decide) ?_
          refine Z_iload (pc' := 91) dX8_setSizes_89 rfl rfl ?_
          exact Z_ireturn dX8_setSizes_91 rfl (Nat.le_refl 0) (Nat.le_refl 0) P
        · have P := P.1 c16
          refine Z_bipush (pc' := 42) dX8_setSizes_40 rfl rfl ?_
          exact Z_ireturn dX8_setSizes_42 rfl (Nat.le_refl 0) (Nat.le_refl 0) P
theorem bX8_setLines {d : Nat} {Q : Int → zMem → Prop} {μ : zMem} {x1 : Int} {x2 : Int} {x3 : Int} {x4 : Int} (P : kX8_in d x1 0 35 μ (fun (r2 : Int) (μ1 : zMem) => (zIn r2) ∧ ((r2 = 0 → (Q (-3) μ1)) ∧ (¬ (r2 = 0) → (kX8_in d x2 0 5 μ1 (fun (r6 : Int) (μ5 : zMem) => (zIn r6) ∧ ((r6 = 0 → (Q (-3) μ5)) ∧ (¬ (r6 = 0) → (kX8_in d x3 0 2 μ5 (fun (r10 : Int) (μ9 : zMem) => (zIn r10) ∧ ((r10 = 0 → (Q (-3) μ9)) ∧ (¬ (r10 = 0) → (kX8_in d x4 1 9 μ9 (fun (r14 : Int) (μ13 : zMem) => (zIn r14) ∧ ((r14 = 0 → (Q (-3) μ13)) ∧ (¬ (r14 = 0) → (kX8_records d μ13 (fun μ17 : zMem => Q (gI μ17 55 78) (sI (sI (sI (sI μ17 55 78 x1) 55 79 x2) 55 80 x3) 55 81 x4))))))))))))))))))) : kX8_setLines (d + 1) x1 x2 x3 x4 μ Q := by
  refine Cl_of rfl (Nat.le_of_ble_eq_true rfl) rfl ?_
  show Z SS none mX8_setLines (d + 1) 0 0 (qI Q) 0 [some (.ref 54), some (vi x1), some (vi x2), some (vi x3), some (vi x4), none] [] μ 0 0
  refine Z_iload_n (pc' := 1) dX8_setLines_0 rfl rfl ?_
  refine Z_iconst (pc' := 2) dX8_setLines_1 rfl ?_
  refine Z_bipush (pc' := 4) dX8_setLines_2 rfl rfl ?_
  refine Z_callS0 (M' := mX8_in) (pc' := 7) (st := []) [vi x1, vi 0, vi 35] dX8_setLines_4 rfl sX8_in lX8_53 rfl (Nat.le_of_ble_eq_true rfl) (Nat.le_refl 0) (Nat.le_refl 0) ?_
  refine Cl_mono P ?_
  rintro _ μ1 ⟨r2, rfl, P⟩
  show Z SS none mX8_setLines (d + 1) 0 0 (qI Q) 7 [some (.ref 54), some (vi x1), some (vi x2), some (vi x3), some (vi x4), none] [vi r2] μ1 0 0
  have h3 := P.1
  have P := P.2
  refine Z_if_eq (tgt := 39) (pc' := 10) dX8_setLines_7 (by decide) rfl h3 (fun c4 => ?_) (fun c4 => ?_)
  · have P := P.1 c4
    refine Z_bipush (pc' := 41) dX8_setLines_39 rfl rfl ?_
    exact Z_ireturn dX8_setLines_41 rfl (Nat.le_refl 0) (Nat.le_refl 0) P
  · have P := P.2 c4
    refine Z_iload_n (pc' := 11) dX8_setLines_10 rfl rfl ?_
    refine Z_iconst (pc' := 12) dX8_setLines_11 rfl ?_
    refine Z_iconst (pc' := 13) dX8_setLines_12 rfl ?_
    refine Z_callS0 (M' := mX8_in) (pc' := 16) (st := []) [vi x2, vi 0, vi 5] dX8_setLines_13 rfl sX8_in lX8_53 rfl (Nat.le_of_ble_eq_true rfl) (Nat.le_refl 0) (Nat.le_refl 0) ?_
    refine Cl_mono P ?_
    rintro _ μ5 ⟨r6, rfl, P⟩
    show Z SS none mX8_setLines (d + 1) 0 0 (qI Q) 16 [some (.ref 54), some (vi x1), some (vi x2), some (vi x3), some (vi x4), none] [vi r6] μ5 0 0
    have h7 := P.1
    have P := P.2
    refine Z_if_eq (tgt := 39) (pc' := 19) dX8_setLines_16 (by decide) rfl h7 (fun c8 => ?_) (fun c8 => ?_)
    · have P := P.1 c8
      refine Z_bipush (pc' := 41) dX8_setLines_39 rfl rfl ?_
      exact Z_ireturn dX8_setLines_41 rfl (Nat.le_refl 0) (Nat.le_refl 0) P
    · have P := P.2 c8
      refine Z_iload_n (pc' := 20) dX8_setLines_19 rfl rfl ?_
      refine Z_iconst (pc' := 21) dX8_setLines_20 rfl ?_
      refine Z_iconst (pc' := 22) dX8_setLines_21 rfl ?_
      refine Z_callS0 (M' := mX8_in) (pc' := 25) (st := []) [vi x3, vi 0, vi 2] dX8_setLines_22 rfl sX8_in lX8_53 rfl (Nat.le_of_ble_eq_true rfl) (Nat.le_refl 0) (Nat.le_refl 0) ?_
      refine Cl_mono P ?_
      rintro _ μ9 ⟨r10, rfl, P⟩
      show Z SS none mX8_setLines (d + 1) 0 0 (qI Q) 25 [some (.ref 54), some (vi x1), some (vi x2), some (vi x3), some (vi x4), none] [vi r10] μ9 0 0
      have h11 := P.1
      have P := P.2
      refine Z_if_eq (tgt := 39) (pc' := 28) dX8_setLines_25 (by decide) rfl h11 (fun c12 => ?_) (fun c12 => ?_)
      · have P := P.1 c12
        refine Z_bipush (pc' := 41) dX8_setLines_39 rfl rfl ?_
        exact Z_ireturn dX8_setLines_41 rfl (Nat.le_refl 0) (Nat.le_refl 0) P
      · have P := P.2 c12
        refine Z_iload (pc' := 30) dX8_setLines_28 rfl rfl ?_
        refine Z_iconst (pc' := 31) dX8_setLines_30 rfl ?_
        refine Z_bipush (pc' := 33) dX8_setLines_31 rfl rfl ?_
        refine Z_callS0 (M' := mX8_in) (pc' := 36) (st := []) [vi x4, vi 1, vi 9] dX8_setLines_33 rfl sX8_in lX8_53 rfl (Nat.le_of_ble_eq_true rfl) (Nat.le_refl 0) (Nat.le_refl 0) ?_
        refine Cl_mono P ?_
        rintro _ μ13 ⟨r14, rfl, P⟩
        show Z SS none mX8_setLines (d + 1) 0 0 (qI Q) 36 [some (.ref 54), some (vi x1), some (vi x2), some (vi x3), some (vi x4), none] [vi r14] μ13 0 0
        have h15 := P.1
        have P := P.2
        refine Z_if_ne (tgt := 42) (pc' := 39) dX8_setLines_36 (by decide) rfl h15 (fun c16 => ?_) (fun c16 => ?_)
        · have P := P.2 c16
          refine Z_aload_n (pc' := 43) dX8_setLines_42 rfl rfl ?_
          refine Z_callV0 (M' := mX8_records) (pc' := 46) (st := []) [] dX8_setLines_43 rfl vX8_records lX8_68 (Or.inl dd_54) rfl (Nat.le_of_ble_eq_true rfl) (Nat.le_refl 0) (Nat.le_refl 0) ?_
          refine Cl_mono P ?_
          rintro _ μ17 ⟨rfl, P⟩
          show Z SS none mX8_setLines (d + 1) 0 0 (qI Q) 46 [some (.ref 54), some (vi x1), some (vi x2), some (vi x3), some (vi x4), none] [] μ17 0 0
          refine Z_aload_n (pc' := 47) dX8_setLines_46 rfl rfl ?_
          refine Z_getR (q := 55) (pc' := 50) dX8_setLines_47 rfl fX8_7 rfl (Or.inl dd_54) (Or.inl rr_54_0) ?_
          refine Z_bipush (pc' := 52) dX8_setLines_50 rfl rfl ?_
          refine Z_iaload (pc' := 53) dX8_setLines_52 rfl (Or.inl dd_55) (Nat.le_of_ble_eq_true rfl) (by decide) (by decide) ?_
          refine Z_istore (pc' := 55) (lo' := [some (.ref 54), some (vi x1), some (vi x2), some (vi x3), some (vi x4), some (vi (gI μ17 55 78))]) dX8_setLines_53 rfl (by decide) rfl ?_
          refine Z_aload_n (pc' := 56) dX8_setLines_55 rfl rfl ?_
          refine Z_getR (q := 55) (pc' := 59) dX8_setLines_56 rfl fX8_7 rfl (Or.inl dd_54) (Or.inl rr_54_0) ?_
          refine Z_bipush (pc' := 61) dX8_setLines_59 rfl rfl ?_
          refine Z_iload_n (pc' := 62) dX8_setLines_61 rfl rfl ?_
          refine Z_iastore (pc' := 63) dX8_setLines_62 rfl (Or.inl dd_55) (Nat.le_of_ble_eq_true rfl) (by decide) (by decide) ?_
          refine Z_aload_n (pc' := 64) dX8_setLines_63 rfl rfl ?_
          refine Z_getR (q := 55) (pc' := 67) dX8_setLines_64 rfl fX8_7 rfl (Or.inl dd_54) (Or.inl rr_54_0) ?_
          refine Z_bipush (pc' := 69) dX8_setLines_67 rfl rfl ?_
          refine Z_iload_n (pc' := 70) dX8_setLines_69 rfl rfl ?_
          refine Z_iastore (pc' := 71) dX8_setLines_70 rfl (Or.inl dd_55) (Nat.le_of_ble_eq_true rfl) (by decide) (by decide) ?_
          refine Z_aload_n (pc' := 72) dX8_setLines_71 rfl rfl ?_
          refine Z_getR (q := 55) (pc' := 75) dX8_setLines_72 rfl fX8_7 rfl (Or.inl dd_54) (Or.inl rr_54_0) ?_
          refine Z_bipush (pc' := 77) dX8_setLines_75 rfl rfl ?_
          refine Z_iload_n (pc' := 78) dX8_setLines_77 rfl rfl ?_
          refine Z_iastore (pc' := 79) dX8_setLines_78 rfl (Or.inl dd_55) (Nat.le_of_ble_eq_true rfl) (by decide) (by decide) ?_
          refine Z_aload_n (pc' := 80) dX8_setLines_79 rfl rfl ?_
          refine Z_getR (q := 55) (pc' := 83) dX8_setLines_80 rfl fX8_7 rfl (Or.inl dd_54) (Or.inl rr_54_0) ?_
          refine Z_bipush (pc' := 85) dX8_setLines_83 rfl rfl ?_
          refine Z_iload (pc' := 87) dX8_setLines_85 rfl rfl ?_
          refine Z_iastore (pc' := 88) dX8_setLines_87 rfl (Or.inl dd_55) (Nat.le_of_ble_eq_true rfl) (by decide) (by decide) ?_
          refine Z_iload (pc' := 90) dX8_setLines_88 rfl rfl ?_
          exact Z_ireturn dX8_setLines_90 rfl (Nat.le_refl 0) (Nat.le_refl 0) P
        · have P := P.1 c16
          refine Z_bipush (pc' := 41) dX8_setLines_39 rfl rfl ?_
          exact Z_ireturn dX8_setLines_41 rfl (Nat.le_refl 0) (Nat.le_refl 0) P
theorem bX8_count {d : Nat} {Q : Int → zMem → Prop} {μ : zMem} {x1 : Int} (P : kX8_in d x1 0 11 μ (fun (r2 : Int) (μ1 : zMem) => (zIn r2) ∧ ((r2 = 0 → (Q (-3) μ1)) ∧ (¬ (r2 = 0) → ((zIn x1) ∧ ((x1 = 0 → (Q (gI μ1 55 0) μ1)) ∧ (¬ (x1 = 0) → ((x1 = 1 → (Q (gI μ1 55 31) μ1)) ∧ (¬ (x1 = 1) → ((10 ≤ x1 → ((x1 = 10 → (kX8_freeCells d μ1 (fun (r11 : Int) (μ10 : zMem) => Q r11 μ10))) ∧ (¬ (x1 = 10) → (Q (gI μ1 55 82) μ1)))) ∧ (¬ (10 ≤ x1) → ((0 ≤ ((74 + x1) - 2)) ∧ ((((74 + x1) - 2) < 1285) ∧ (Q (gI μ1 55 ((74 + x1) - 2)) μ1)))))))))))))) : kX8_count (d + 1) x1 μ Q := by
  refine Cl_of rfl (Nat.le_of_ble_eq_true rfl) rfl ?_
  show Z SS none mX8_count (d + 1) 0 0 (qI Q) 0 [some (.ref 54), some (vi x1)] [] μ 0 0
  refine Z_iload_n (pc' := 1) dX8_count_0 rfl rfl ?_
  refine Z_iconst (pc' := 2) dX8_count_1 rfl ?_
  refine Z_bipush (pc' := 4) dX8_count_2 rfl rfl ?_
  refine Z_callS0 (M' := mX8_in) (pc' := 7) (st := []) [vi x1, vi 0, vi 11] dX8_count_4 rfl sX8_in lX8_53 rfl (Nat.le_of_ble_eq_true rfl) (Nat.le_refl 0) (Nat.le_refl 0) ?_
  refine Cl_mono P ?_
  rintro _ μ1 ⟨r2, rfl, P⟩
  show Z SS none mX8_count (d + 1) 0 0 (qI Q) 7 [some (.ref 54), some (vi x1)] [vi r2] μ1 0 0
  have h3 := P.1
  have P := P.2
  refine Z_if_ne (tgt := 13) (pc' := 10) dX8_count_7 (by decide) rfl h3 (fun c4 => ?_) (fun c4 => ?_)
  · have P := P.2 c4
    refine Z_iload_n (pc' := 14) dX8_count_13 rfl rfl ?_
    have h5 := P.1
    have P := P.2
    refine Z_if_ne (tgt := 26) (pc' := 17) dX8_count_14 (by decide) rfl h5 (fun c6 => ?_) (fun c6 => ?_)
    · have P := P.2 c6
      refine Z_iload_n (pc' := 27) dX8_count_26 rfl rfl ?_
      refine Z_iconst (pc' := 28) dX8_count_27 rfl ?_
      refine Z_icmp_ne (tgt := 41) (pc' := 31) dX8_count_28 (by decide) rfl h5 (z_lit rfl) (fun c7 => ?_) (fun c7 => ?_)
      · have P := P.2 c7
        refine Z_iload_n (pc' := 42) dX8_count_41 rfl rfl ?_
        refine Z_bipush (pc' := 44) dX8_count_42 rfl rfl ?_
        refine Z_icmp_ge (tgt := 61) (pc' := 47) dX8_count_44 (by decide) rfl h5 (z_lit rfl) (fun c8 => ?_) (fun c8 => ?_)
        · have P := P.1 c8
          refine Z_iload_n (pc' := 62) dX8_count_61 rfl rfl ?_
          refine Z_bipush (pc' := 64) dX8_count_62 rfl rfl ?_
          refine Z_icmp_ne (tgt := 74) (pc' := 67) dX8_count_64 (by decide) rfl h5 (z_lit rfl) (fun c9 => ?_) (fun c9 => ?_)
          · have P := P.2 c9
            refine Z_aload_n (pc' := 75) dX8_count_74 rfl rfl ?_
            refine Z_getR (q := 55) (pc' := 78) dX8_count_75 rfl fX8_7 rfl (Or.inl dd_54) (Or.inl rr_54_0) ?_
            refine Z_bipush (pc' := 80) dX8_count_78 rfl rfl ?_
            refine Z_iaload (pc' := 81) dX8_count_80 rfl (Or.inl dd_55) (Nat.le_of_ble_eq_true rfl) (by decide) (by decide) ?_
            exact Z_ireturn dX8_count_81 rfl (Nat.le_refl 0) (Nat.le_refl 0) P
          · have P := P.1 c9
            refine Z_aload_n (pc' := 68) dX8_count_67 rfl rfl ?_
            refine Z_callV0 (M' := mX8_freeCells) (pc' := 71) (st := []) [] dX8_count_68 rfl vX8_freeCells lX8_75 (Or.inl dd_54) rfl (Nat.le_of_ble_eq_true rfl) (Nat.le_refl 0) (Nat.le_refl 0) ?_
            refine Cl_mono P ?_
            rintro _ μ10 ⟨r11, rfl, P⟩
            show Z SS none mX8_count (d + 1) 0 0 (qI Q) 71 [some (.ref 54), some (vi x1)] [vi r11] μ10 0 0
            refine Z_goto (tgt := 81) dX8_count_71 (by decide) ?_
            exact Z_ireturn dX8_count_81 rfl (Nat.le_refl 0) (Nat.le_refl 0) P
        · have P := P.2 c8
          refine Z_aload_n (pc' := 48) dX8_count_47 rfl rfl ?_
          refine Z_getR (q := 55) (pc' := 51) dX8_count_48 rfl fX8_7 rfl (Or.inl dd_54) (Or.inl rr_54_0) ?_
          refine Z_bipush (pc' := 53) dX8_count_51 rfl rfl ?_
          refine Z_iload_n (pc' := 54) dX8_count_53 rfl rfl ?_
          refine Z_iadd (pc' := 55) dX8_count_54 rfl ?_
          refine Z_iconst (pc' := 56) dX8_count_55 rfl ?_
          refine Z_isub (pc' := 57) dX8_count_56 rfl ?_
          have h12 := P.1
          have P := P.2
          have h13 := P.1
          have P := P.2
          refine Z_iaload (pc' := 58) dX8_count_57 rfl (Or.inl dd_55) (Nat.le_of_ble_eq_true rfl) h12 h13 ?_
          refine Z_goto (tgt := 81) dX8_count_58 (by decide) ?_
          exact Z_ireturn dX8_count_81 rfl (Nat.le_refl 0) (Nat.le_refl 0) P
      · have P := P.1 c7
        refine Z_aload_n (pc' := 32) dX8_count_31 rfl rfl ?_
        refine Z_getR (q := 55) (pc' := 35) dX8_count_32 rfl fX8_7 rfl (Or.inl dd_54) (Or.inl rr_54_0) ?_
        refine Z_bipush (pc' := 37) dX8_count_35 rfl rfl ?_
        refine Z_iaload (pc' := 38) dX8_count_37 rfl (Or.inl dd_55) (Nat.le_of_ble_eq_true rfl) (by decide) (by decide) ?_
        refine Z_goto (tgt := 81) dX8_count_38 (by decide) ?_
        exact Z_ireturn dX8_count_81 rfl (Nat.le_refl 0) (Nat.le_refl 0) P
    · have P := P.1 c6
      refine Z_aload_n (pc' := 18) dX8_count_17 rfl rfl ?_
      refine Z_getR (q := 55) (pc' := 21) dX8_count_18 rfl fX8_7 rfl (Or.inl dd_54) (Or.inl rr_54_0) ?_
      refine Z_iconst (pc' := 22) dX8_count_21 rfl ?_
      refine Z_iaload (pc' := 23) dX8_count_22 rfl (Or.inl dd_55) (Nat.le_of_ble_eq_true rfl) (by decide) (by decide) ?_
      refine Z_goto (tgt := 81) dX8_count_23 (by decide) ?_
      exact Z_ireturn dX8_count_81 rfl (Nat.le_refl 0) (Nat.le_refl 0) P
  · have P := P.1 c4
    refine Z_bipush (pc' := 12) dX8_count_10 rfl rfl ?_
    exact Z_ireturn dX8_count_12 rfl (Nat.le_refl 0) (Nat.le_refl 0) P
theorem bX8_word {d : Nat} {Q : Int → zMem → Prop} {μ : zMem} {x1 : Int} {x2 : Int} (P : kX8_isWord d x1 μ (fun (r2 : Int) (μ1 : zMem) => (zIn r2) ∧ ((r2 = 0 → (Q (-2) μ1)) ∧ (¬ (r2 = 0) → (kX8_in d x2 0 2 μ1 (fun (r6 : Int) (μ5 : zMem) => (zIn r6) ∧ ((r6 = 0 → (Q (-3) μ5)) ∧ (¬ (r6 = 0) → (kX8_of d x1 x2 μ5 (fun (r10 : Int) (μ9 : zMem) => Q r10 μ9)))))))))) : kX8_word (d + 1) x1 x2 μ Q := by
  refine Cl_of rfl (Nat.le_of_ble_eq_true rfl) rfl ?_
  show Z SS none mX8_word (d + 1) 0 0 (qI Q) 0 [some (.ref 54), some (vi x1), some (vi x2)] [] μ 0 0
  refine Z_aload_n (pc' := 1) dX8_word_0 rfl rfl ?_
  refine Z_iload_n (pc' := 2) dX8_word_1 rfl rfl ?_
  refine Z_callV0 (M' := mX8_isWord) (pc' := 5) (st := []) [vi x1] dX8_word_2 rfl vX8_isWord lX8_90 (Or.inl dd_54) rfl (Nat.le_of_ble_eq_true rfl) (Nat.le_refl 0) (Nat.le_refl 0) ?_
  refine Cl_mono P ?_
  rintro _ μ1 ⟨r2, rfl, P⟩
  show Z SS none mX8_word (d + 1) 0 0 (qI Q) 5 [some (.ref 54), some (vi x1), some (vi x2)] [vi r2] μ1 0 0
  have h3 := P.1
  have P := P.2
  refine Z_if_ne (tgt := 11) (pc' := 8) dX8_word_5 (by decide) rfl h3 (fun c4 => ?_) (fun c4 => ?_)
  · have P := P.2 c4
    refine Z_iload_n (pc' := 12) dX8_word_11 rfl rfl ?_
    refine Z_iconst (pc' := 13) dX8_word_12 rfl ?_
    refine Z_iconst (pc' := 14) dX8_word_13 rfl ?_
    refine Z_callS0 (M' := mX8_in) (pc' := 17) (st := []) [vi x2, vi 0, vi 2] dX8_word_14 rfl sX8_in lX8_53 rfl (Nat.le_of_ble_eq_true rfl) (Nat.le_refl 0) (Nat.le_refl 0) ?_
    refine Cl_mono P ?_
    rintro _ μ5 ⟨r6, rfl, P⟩
    show Z SS none mX8_word (d + 1) 0 0 (qI Q) 17 [some (.ref 54), some (vi x1), some (vi x2)] [vi r6] μ5 0 0
    have h7 := P.1
    have P := P.2
    refine Z_if_eq (tgt := 29) (pc' := 20) dX8_word_17 (by decide) rfl h7 (fun c8 => ?_) (fun c8 => ?_)
    · have P := P.1 c8
      refine Z_bipush (pc' := 31) dX8_word_29 rfl rfl ?_
      exact Z_ireturn dX8_word_31 rfl (Nat.le_refl 0) (Nat.le_refl 0) P
    · have P := P.2 c8
      refine Z_aload_n (pc' := 21) dX8_word_20 rfl rfl ?_
      refine Z_iload_n (pc' := 22) dX8_word_21 rfl rfl ?_
      refine Z_iload_n (pc' := 23) dX8_word_22 rfl rfl ?_
      refine Z_callV0 (M' := mX8_of) (pc' := 26) (st := []) [vi x1, vi x2] dX8_word_23 rfl vX8_of lX8_93 (Or.inl dd_54) rfl (Nat.le_of_ble_eq_true rfl) (Nat.le_refl 0) (Nat.le_refl 0) ?_
      refine Cl_mono P ?_
      rintro _ μ9 ⟨r10, rfl, P⟩
      show Z SS none mX8_word (d + 1) 0 0 (qI Q) 26 [some (.ref 54), some (vi x1), some (vi x2)] [vi r10] μ9 0 0
      refine Z_goto (tgt := 31) dX8_word_26 (by decide) ?_
      exact Z_ireturn dX8_word_31 rfl (Nat.le_refl 0) (Nat.le_refl 0) P
  · have P := P.1 c4
    refine Z_bipush (pc' := 10) dX8_word_8 rfl rfl ?_
    exact Z_ireturn dX8_word_10 rfl (Nat.le_refl 0) (Nat.le_refl 0) P
theorem bX8_sizeOf {d : Nat} {Q : Int → zMem → Prop} {μ : zMem} {x1 : Int} {x2 : Int} (P : kX8_of d x1 1 μ (fun (r2 : Int) (μ1 : zMem) => Q (x2 + ((r2 - 1) * (gI μ1 55 74))) μ1)) : kX8_sizeOf (d + 1) x1 x2 μ Q := by
  refine Cl_of rfl (Nat.le_of_ble_eq_true rfl) rfl ?_
  show Z SS none mX8_sizeOf (d + 1) 0 0 (qI Q) 0 [some (.ref 54), some (vi x1), some (vi x2)] [] μ 0 0
  refine Z_iload_n (pc' := 1) dX8_sizeOf_0 rfl rfl ?_
  refine Z_aload_n (pc' := 2) dX8_sizeOf_1 rfl rfl ?_
  refine Z_iload_n (pc' := 3) dX8_sizeOf_2 rfl rfl ?_
  refine Z_iconst (pc' := 4) dX8_sizeOf_3 rfl ?_
  refine Z_callV0 (M' := mX8_of) (pc' := 7) (st := [vi x2]) [vi x1, vi 1] dX8_sizeOf_4 rfl vX8_of lX8_93 (Or.inl dd_54) rfl (Nat.le_of_ble_eq_true rfl) (Nat.le_refl 0) (Nat.le_refl 0) ?_
  refine Cl_mono P ?_
  rintro _ μ1 ⟨r2, rfl, P⟩
  show Z SS none mX8_sizeOf (d + 1) 0 0 (qI Q) 7 [some (.ref 54), some (vi x1), some (vi x2)] [vi r2, vi x2] μ1 0 0
  refine Z_iconst (pc' := 8) dX8_sizeOf_7 rfl ?_
  refine Z_isub (pc' := 9) dX8_sizeOf_8 rfl ?_
  refine Z_aload_n (pc' := 10) dX8_sizeOf_9 rfl rfl ?_
  refine Z_getR (q := 55) (pc' := 13) dX8_sizeOf_10 rfl fX8_7 rfl (Or.inl dd_54) (Or.inl rr_54_0) ?_
  refine Z_bipush (pc' := 15) dX8_sizeOf_13 rfl rfl ?_
  refine Z_iaload (pc' := 16) dX8_sizeOf_15 rfl (Or.inl dd_55) (Nat.le_of_ble_eq_true rfl) (by decide) (by decide) ?_
  refine Z_imul (pc' := 17) dX8_sizeOf_16 rfl ?_
  refine Z_iadd (pc' := 18) dX8_sizeOf_17 rfl ?_
  exact Z_ireturn dX8_sizeOf_18 rfl (Nat.le_refl 0) (Nat.le_refl 0) P
abbrev zX8_isLeast_18 (d : Nat) (Q : Int → zMem → Prop) (x1 : Int) (x2 : Int) (x3 : Int) (μ : zMem) : Prop := Z SS none mX8_isLeast (d + 1) 0 0 (qI Q) 18 [some (.ref 54), some (vi x1), some (vi x2), some (vi x3)] [] μ 0 0
theorem bX8_isLeast {d : Nat} {Q : Int → zMem → Prop} {μ : zMem} {x1 : Int} (P : ((zIn (gI μ 55 31))) ∧ (zX8_isLeast_18 d Q x1 (if (gI μ 55 31) ≤ 0 then 0 else 1) 0 μ)) : kX8_isLeast (d + 1) x1 μ Q := by
  refine Cl_of rfl (Nat.le_of_ble_eq_true rfl) rfl ?_
  show Z SS none mX8_isLeast (d + 1) 0 0 (qI Q) 0 [some (.ref 54), some (vi x1), none, none] [] μ 0 0
  refine Z_aload_n (pc' := 1) dX8_isLeast_0 rfl rfl ?_
  refine Z_getR (q := 55) (pc' := 4) dX8_isLeast_1 rfl fX8_7 rfl (Or.inl dd_54) (Or.inl rr_54_0) ?_
  refine Z_bipush (pc' := 6) dX8_isLeast_4 rfl rfl ?_
  refine Z_iaload (pc' := 7) dX8_isLeast_6 rfl (Or.inl dd_55) (Nat.le_of_ble_eq_true rfl) (by decide) (by decide) ?_
  have K : ∀ t3 : Int, t3 = (if (gI μ 55 31) ≤ 0 then 0 else 1) → Z SS none mX8_isLeast (d + 1) 0 0 (qI Q) 15 [some (.ref 54), some (vi x1), none, none] [vi t3] μ 0 0 := by
    rintro _ rfl
    have P := P.2
    refine Z_istore_n (pc' := 16) (lo' := [some (.ref 54), some (vi x1), some (vi (if (gI μ 55 31) ≤ 0 then 0 else 1)), none]) dX8_isLeast_15 rfl (by decide) rfl ?_
    refine Z_iconst (pc' := 17) dX8_isLeast_16 rfl ?_
    refine Z_istore_n (pc' := 18) (lo' := [some (.ref 54), some (vi x1), some (vi (if (gI μ 55 31) ≤ 0 then 0 else 1)), some (vi 0)]) dX8_isLeast_17 rfl (by decide) rfl ?_
    exact P
  have G := P.1
  have h1 := G
  refine Z_if_le (tgt := 14) (pc' := 10) dX8_isLeast_7 (by decide) rfl h1 (fun c2 => ?_) (fun c2 => ?_)
  · refine Z_iconst (pc' := 15) dX8_isLeast_14 rfl ?_
    refine Z_wk [true, true, false, false] rfl ?_
    exact K _ (by rw [if_pos c2])
  · refine Z_iconst (pc' := 11) dX8_isLeast_10 rfl ?_
    refine Z_goto (tgt := 15) dX8_isLeast_11 (by decide) ?_
    refine Z_wk [true, true, false, false] rfl ?_
    exact K _ (by rw [if_neg c2])
theorem bX8_isLeast_18 {d : Nat} {Q : Int → zMem → Prop} {μ : zMem} {x1 : Int} {x2 : Int} {x3 : Int} (P : (zIn x3) ∧ ((zIn (gI μ 55 31)) ∧ (((gI μ 55 31) ≤ x3 → ((x2 = 0 ∨ x2 = 1) ∧ (Q x2 μ))) ∧ (¬ ((gI μ 55 31) ≤ x3) → ((zIn x2) ∧ ((x2 = 0 → (zX8_isLeast_18 d Q x1 0 (x3 + 1) μ)) ∧ (¬ (x2 = 0) → (kX8_sizeOf d x3 x1 μ (fun (r8 : Int) (μ7 : zMem) => kX8_of d x3 1 μ7 (fun (r10 : Int) (μ9 : zMem) => (0 ≤ ((75 + r10) - 1)) ∧ ((((75 + r10) - 1) < 1285) ∧ (((zIn r8) ∧ ((zIn (gI μ9 55 ((75 + r10) - 1))))) ∧ (zX8_isLeast_18 d Q x1 (if r8 < (gI μ9 55 ((75 + r10) - 1)) then 0 else 1) (x3 + 1) μ9))))))))))))) : zX8_isLeast_18 d Q x1 x2 x3 μ := by
  refine Z_iload_n (pc' := 19) dX8_isLeast_18 rfl rfl ?_
  refine Z_aload_n (pc' := 20) dX8_isLeast_19 rfl rfl ?_
  refine Z_getR (q := 55) (pc' := 23) dX8_isLeast_20 rfl fX8_7 rfl (Or.inl dd_54) (Or.inl rr_54_0) ?_
  refine Z_bipush (pc' := 25) dX8_isLeast_23 rfl rfl ?_
  refine Z_iaload (pc' := 26) dX8_isLeast_25 rfl (Or.inl dd_55) (Nat.le_of_ble_eq_true rfl) (by decide) (by decide) ?_
  have h1 := P.1
  have P := P.2
  have h2 := P.1
  have P := P.2
  refine Z_icmp_ge (tgt := 70) (pc' := 29) dX8_isLeast_26 (by decide) rfl h1 h2 (fun c3 => ?_) (fun c3 => ?_)
  · have P := P.1 c3
    refine Z_iload_n (pc' := 71) dX8_isLeast_70 rfl rfl ?_
    have h4 := P.1
    have P := P.2
    exact Z_zreturn dX8_isLeast_71 rfl h4 (Nat.le_refl 0) (Nat.le_refl 0) P
  · have P := P.2 c3
    refine Z_iload_n (pc' := 30) dX8_isLeast_29 rfl rfl ?_
    have h5 := P.1
    have P := P.2
    refine Z_if_eq (tgt := 62) (pc' := 33) dX8_isLeast_30 (by decide) rfl h5 (fun c6 => ?_) (fun c6 => ?_)
    · have P := P.1 c6
      refine Z_iconst (pc' := 63) dX8_isLeast_62 rfl ?_
      refine Z_istore_n (pc' := 64) (lo' := [some (.ref 54), some (vi x1), some (vi 0), some (vi x3)]) dX8_isLeast_63 rfl (by decide) rfl ?_
      refine Z_iinc (pc' := 67) (lo' := [some (.ref 54), some (vi x1), some (vi 0), some (vi (x3 + 1))]) dX8_isLeast_64 rfl (by decide) rfl rfl ?_
      refine Z_goto (tgt := 18) dX8_isLeast_67 (by decide) ?_
      exact P
    · have P := P.2 c6
      refine Z_aload_n (pc' := 34) dX8_isLeast_33 rfl rfl ?_
      refine Z_iload_n (pc' := 35) dX8_isLeast_34 rfl rfl ?_
      refine Z_iload_n (pc' := 36) dX8_isLeast_35 rfl rfl ?_
      refine Z_callV0 (M' := mX8_sizeOf) (pc' := 39) (st := []) [vi x3, vi x1] dX8_isLeast_36 rfl vX8_sizeOf lX8_96 (Or.inl dd_54) rfl (Nat.le_of_ble_eq_true rfl) (Nat.le_refl 0) (Nat.le_refl 0) ?_
      refine Cl_mono P ?_
      rintro _ μ7 ⟨r8, rfl, P⟩
      show Z SS none mX8_isLeast (d + 1) 0 0 (qI Q) 39 [some (.ref 54), some (vi x1), some (vi x2), some (vi x3)] [vi r8] μ7 0 0
      refine Z_aload_n (pc' := 40) dX8_isLeast_39 rfl rfl ?_
      refine Z_getR (q := 55) (pc' := 43) dX8_isLeast_40 rfl fX8_7 rfl (Or.inl dd_54) (Or.inl rr_54_0) ?_
      refine Z_bipush (pc' := 45) dX8_isLeast_43 rfl rfl ?_
      refine Z_aload_n (pc' := 46) dX8_isLeast_45 rfl rfl ?_
      refine Z_iload_n (pc' := 47) dX8_isLeast_46 rfl rfl ?_
      refine Z_iconst (pc' := 48) dX8_isLeast_47 rfl ?_
      refine Z_callV0 (M' := mX8_of) (pc' := 51) (st := [vi 75, .ref 55, vi r8]) [vi x3, vi 1] dX8_isLeast_48 rfl vX8_of lX8_93 (Or.inl dd_54) rfl (Nat.le_of_ble_eq_true rfl) (Nat.le_refl 0) (Nat.le_refl 0) ?_
      refine Cl_mono P ?_
      rintro _ μ9 ⟨r10, rfl, P⟩
      show Z SS none mX8_isLeast (d + 1) 0 0 (qI Q) 51 [some (.ref 54), some (vi x1), some (vi x2), some (vi x3)] [vi r10, vi 75, .ref 55, vi r8] μ9 0 0
      refine Z_iadd (pc' := 52) dX8_isLeast_51 rfl ?_
      refine Z_iconst (pc' := 53) dX8_isLeast_52 rfl ?_
      refine Z_isub (pc' := 54) dX8_isLeast_53 rfl ?_
      have h11 := P.1
      have P := P.2
      have h12 := P.1
      have P := P.2
      refine Z_iaload (pc' := 55) dX8_isLeast_54 rfl (Or.inl dd_55) (Nat.le_of_ble_eq_true rfl) h11 h12 ?_
      have K : ∀ t16 : Int, t16 = (if r8 < (gI μ9 55 ((75 + r10) - 1)) then 0 else 1) → Z SS none mX8_isLeast (d + 1) 0 0 (qI Q) 63 [some (.ref 54), some (vi x1), some (vi x2), some (vi x3)] [vi t16] μ9 0 0 := by
        rintro _ rfl
        have P := P.2
        refine Z_istore_n (pc' := 64) (lo' := [some (.ref 54), some (vi x1), some (vi (if r8 < (gI μ9 55 ((75 + r10) - 1)) then 0 else 1)), some (vi x3)]) dX8_isLeast_63 rfl (by decide) rfl ?_
        refine Z_iinc (pc' := 67) (lo' := [some (.ref 54), some (vi x1), some (vi (if r8 < (gI μ9 55 ((75 + r10) - 1)) then 0 else 1)), some (vi (x3 + 1))]) dX8_isLeast_64 rfl (by decide) rfl rfl ?_
        refine Z_goto (tgt := 18) dX8_isLeast_67 (by decide) ?_
        exact P
      have G := P.1
      have h13 := G.1
      have G := G.2
      have h14 := G
      refine Z_icmp_lt (tgt := 62) (pc' := 58) dX8_isLeast_55 (by decide) rfl h13 h14 (fun c15 => ?_) (fun c15 => ?_)
      · refine Z_iconst (pc' := 63) dX8_isLeast_62 rfl ?_
        exact K _ (by rw [if_pos c15])
      · refine Z_iconst (pc' := 59) dX8_isLeast_58 rfl ?_
        refine Z_goto (tgt := 63) dX8_isLeast_59 (by decide) ?_
        exact K _ (by rw [if_neg c15])
theorem bX8_breaks {d : Nat} {Q : Int → zMem → Prop} {μ : zMem} {x1 : Int} {x2 : Int} (P : (zIn x2) ∧ ((x2 = 0 → (Q 1 μ)) ∧ (¬ (x2 = 0) → (∃ z3 : Int, (Int32.ofInt x1 >>> (Int32.ofInt (((gI μ 55 31) - 1) - x2) &&& 31) = Int32.ofInt z3) ∧ (∃ z5 : Int, (Int32.ofInt z3 &&& Int32.ofInt 1 = Int32.ofInt z5) ∧ (((zIn z5)) ∧ (Q (if z5 = 1 then 1 else 0) μ))))))) : kX8_breaks d x1 x2 μ Q := by
  refine Cl_of rfl (Nat.le_of_ble_eq_true rfl) rfl ?_
  show Z SS none mX8_breaks d 0 0 (qI Q) 0 [some (.ref 54), some (vi x1), some (vi x2)] [] μ 0 0
  refine Z_iload_n (pc' := 1) dX8_breaks_0 rfl rfl ?_
  have h1 := P.1
  have P := P.2
  refine Z_if_eq (tgt := 23) (pc' := 4) dX8_breaks_1 (by decide) rfl h1 (fun c2 => ?_) (fun c2 => ?_)
  · have P := P.1 c2
    refine Z_iconst (pc' := 24) dX8_breaks_23 rfl ?_
    refine Z_goto (tgt := 28) dX8_breaks_24 (by decide) ?_
    exact Z_zreturn dX8_breaks_28 rfl (Or.inr rfl) (Nat.le_refl 0) (Nat.le_refl 0) P
  · have P := P.2 c2
    refine Z_iload_n (pc' := 5) dX8_breaks_4 rfl rfl ?_
    refine Z_aload_n (pc' := 6) dX8_breaks_5 rfl rfl ?_
    refine Z_getR (q := 55) (pc' := 9) dX8_breaks_6 rfl fX8_7 rfl (Or.inl dd_54) (Or.inl rr_54_0) ?_
    refine Z_bipush (pc' := 11) dX8_breaks_9 rfl rfl ?_
    refine Z_iaload (pc' := 12) dX8_breaks_11 rfl (Or.inl dd_55) (Nat.le_of_ble_eq_true rfl) (by decide) (by decide) ?_
    refine Z_iconst (pc' := 13) dX8_breaks_12 rfl ?_
    refine Z_isub (pc' := 14) dX8_breaks_13 rfl ?_
    refine Z_iload_n (pc' := 15) dX8_breaks_14 rfl rfl ?_
    refine Z_isub (pc' := 16) dX8_breaks_15 rfl ?_
    obtain ⟨z3, h4, P⟩ := P
    refine Z_ishr (z := z3) (pc' := 17) dX8_breaks_16 rfl h4 ?_
    refine Z_iconst (pc' := 18) dX8_breaks_17 rfl ?_
    obtain ⟨z5, h6, P⟩ := P
    refine Z_iand (z := z5) (pc' := 19) dX8_breaks_18 rfl h6 ?_
    refine Z_iconst (pc' := 20) dX8_breaks_19 rfl ?_
    have K : ∀ t9 : Int, t9 = (if z5 = 1 then 1 else 0) → Z SS none mX8_breaks d 0 0 (qI Q) 28 [some (.ref 54), some (vi x1), some (vi x2)] [vi t9] μ 0 0 := by
      rintro _ rfl
      have P := P.2
      exact Z_zreturn dX8_breaks_28 rfl (by (repeat' split) <;> simp) (Nat.le_refl 0) (Nat.le_refl 0) P
    have G := P.1
    have h7 := G
    refine Z_icmp_ne (tgt := 27) (pc' := 23) dX8_breaks_20 (by decide) rfl h7 (z_lit rfl) (fun c8 => ?_) (fun c8 => ?_)
    · refine Z_iconst (pc' := 28) dX8_breaks_27 rfl ?_
      exact K _ (by rw [if_neg c8])
    · refine Z_iconst (pc' := 24) dX8_breaks_23 rfl ?_
      refine Z_goto (tgt := 28) dX8_breaks_24 (by decide) ?_
      exact K _ (by rw [if_pos c8])
theorem bX8_least {d : Nat} {Q : Int → zMem → Prop} {μ : zMem} {x0 : Int} {x1 : Int} (P : ((zIn x0) ∧ ((zIn x1))) ∧ (Q (if x1 ≤ x0 then x1 else x0) μ)) : kX8_least d x0 x1 μ Q := by
  refine Cl_of rfl (Nat.le_of_ble_eq_true rfl) rfl ?_
  show Z SS none mX8_least d 0 0 (qI Q) 0 [some (vi x0), some (vi x1)] [] μ 0 0
  refine Z_iload_n (pc' := 1) dX8_least_0 rfl rfl ?_
  refine Z_iload_n (pc' := 2) dX8_least_1 rfl rfl ?_
  have K : ∀ t4 : Int, t4 = (if x1 ≤ x0 then x1 else x0) → Z SS none mX8_least d 0 0 (qI Q) 10 [some (vi x0), some (vi x1)] [vi t4] μ 0 0 := by
    rintro _ rfl
    have P := P.2
    exact Z_ireturn dX8_least_10 rfl (Nat.le_refl 0) (Nat.le_refl 0) P
  have G := P.1
  have h1 := G.1
  have G := G.2
  have h2 := G
  refine Z_icmp_ge (tgt := 9) (pc' := 5) dX8_least_2 (by decide) rfl h1 h2 (fun c3 => ?_) (fun c3 => ?_)
  · refine Z_iload_n (pc' := 10) dX8_least_9 rfl rfl ?_
    exact K _ (by rw [if_pos c3])
  · refine Z_iload_n (pc' := 6) dX8_least_5 rfl rfl ?_
    refine Z_goto (tgt := 10) dX8_least_6 (by decide) ?_
    exact K _ (by rw [if_neg c3])
abbrev zX8_places_75 (d : Nat) (Q : zMem → Prop) (x1 : Int) (x2 : Int) (x3 : Int) (x5 : Int) (x6 : Int) (μ : zMem) : Prop := Z SS none mX8_places (d + 1) 0 0 (qV Q) 75 [some (.ref 54), some (vi x1), some (vi x2), some (vi x3), none, some (vi x5), some (vi x6), none] [] μ 0 0
abbrev zX8_places_128 (d : Nat) (Q : zMem → Prop) (x1 : Int) (x2 : Int) (x3 : Int) (x6 : Int) (x7 : Int) (s0 : Int) (s1 : Int) (μ : zMem) : Prop := Z SS none mX8_places (d + 1) 0 0 (qV Q) 128 [some (.ref 54), some (vi x1), some (vi x2), some (vi x3), none, none, some (vi x6), some (vi x7)] [vi s0, vi s1] μ 0 0
theorem bX8_places {d : Nat} {Q : zMem → Prop} {μ : zMem} {x1 : Int} {x2 : Int} (P : (0 ≤ (7 * x2)) ∧ (((7 * x2) < 98) ∧ ((0 ≤ ((7 * x2) + 6)) ∧ ((((7 * x2) + 6) < 98) ∧ ((0 ≤ ((7 * x2) + 5)) ∧ ((((7 * x2) + 5) < 98) ∧ (((zIn (gI μ 55 80)) ∧ (((gI μ 55 80) = 0 → True) ∧ (¬ ((gI μ 55 80) = 0) → (((gI μ 55 80) = 1 → (zIn (gI μ 59 ((7 * x2) + 6)))) ∧ (¬ ((gI μ 55 80) = 1) → True))))) ∧ (zX8_places_75 d Q x1 x2 (gI μ 59 (7 * x2)) ((gI μ 59 ((7 * x2) + 5)) + (if (gI μ 55 80) = 0 then 0 else (if (gI μ 55 80) = 1 then ((gI μ 59 ((7 * x2) + 6)).tdiv 2) else (gI μ 59 ((7 * x2) + 6))))) (gI μ 59 (7 * x2)) μ)))))))) : kX8_places (d + 1) x1 x2 μ Q := by
  refine Cl_of rfl (Nat.le_of_ble_eq_true rfl) rfl ?_
  show Z SS none mX8_places (d + 1) 0 0 (qV Q) 0 [some (.ref 54), some (vi x1), some (vi x2), none, none, none, none, none] [] μ 0 0
  refine Z_aload_n (pc' := 1) dX8_places_0 rfl rfl ?_
  refine Z_getR (q := 59) (pc' := 4) dX8_places_1 rfl fX8_23 rfl (Or.inl dd_54) (Or.inl rr_54_5) ?_
  refine Z_bipush (pc' := 6) dX8_places_4 rfl rfl ?_
  refine Z_iload_n (pc' := 7) dX8_places_6 rfl rfl ?_
  refine Z_imul (pc' := 8) dX8_places_7 rfl ?_
  have h1 := P.1
  have P := P.2
  have h2 := P.1
  have P := P.2
  refine Z_iaload (pc' := 9) dX8_places_8 rfl (Or.inl dd_59) (Nat.le_of_ble_eq_true rfl) h1 h2 ?_
  refine Z_istore_n (pc' := 10) (lo' := [some (.ref 54), some (vi x1), some (vi x2), some (vi (gI μ 59 (7 * x2))), none, none, none, none]) dX8_places_9 rfl (by decide) rfl ?_
  refine Z_aload_n (pc' := 11) dX8_places_10 rfl rfl ?_
  refine Z_getR (q := 59) (pc' := 14) dX8_places_11 rfl fX8_23 rfl (Or.inl dd_54) (Or.inl rr_54_5) ?_
  refine Z_bipush (pc' := 16) dX8_places_14 rfl rfl ?_
  refine Z_iload_n (pc' := 17) dX8_places_16 rfl rfl ?_
  refine Z_imul (pc' := 18) dX8_places_17 rfl ?_
  refine Z_bipush (pc' := 20) dX8_places_18 rfl rfl ?_
  refine Z_iadd (pc' := 21) dX8_places_20 rfl ?_
  have h3 := P.1
  have P := P.2
  have h4 := P.1
  have P := P.2
  refine Z_iaload (pc' := 22) dX8_places_21 rfl (Or.inl dd_59) (Nat.le_of_ble_eq_true rfl) h3 h4 ?_
  refine Z_istore (pc' := 24) (lo' := [some (.ref 54), some (vi x1), some (vi x2), some (vi (gI μ 59 (7 * x2))), some (vi (gI μ 59 ((7 * x2) + 6))), none, none, none]) dX8_places_22 rfl (by decide) rfl ?_
  refine Z_aload_n (pc' := 25) dX8_places_24 rfl rfl ?_
  refine Z_getR (q := 59) (pc' := 28) dX8_places_25 rfl fX8_23 rfl (Or.inl dd_54) (Or.inl rr_54_5) ?_
  refine Z_bipush (pc' := 30) dX8_places_28 rfl rfl ?_
  refine Z_iload_n (pc' := 31) dX8_places_30 rfl rfl ?_
  refine Z_imul (pc' := 32) dX8_places_31 rfl ?_
  refine Z_iconst (pc' := 33) dX8_places_32 rfl ?_
  refine Z_iadd (pc' := 34) dX8_places_33 rfl ?_
  have h5 := P.1
  have P := P.2
  have h6 := P.1
  have P := P.2
  refine Z_iaload (pc' := 35) dX8_places_34 rfl (Or.inl dd_59) (Nat.le_of_ble_eq_true rfl) h5 h6 ?_
  refine Z_aload_n (pc' := 36) dX8_places_35 rfl rfl ?_
  refine Z_getR (q := 55) (pc' := 39) dX8_places_36 rfl fX8_7 rfl (Or.inl dd_54) (Or.inl rr_54_0) ?_
  refine Z_bipush (pc' := 41) dX8_places_39 rfl rfl ?_
  refine Z_iaload (pc' := 42) dX8_places_41 rfl (Or.inl dd_55) (Nat.le_of_ble_eq_true rfl) (by decide) (by decide) ?_
  have K : ∀ t11 : Int, t11 = (if (gI μ 55 80) = 0 then 0 else (if (gI μ 55 80) = 1 then ((gI μ 59 ((7 * x2) + 6)).tdiv 2) else (gI μ 59 ((7 * x2) + 6)))) → Z SS none mX8_places (d + 1) 0 0 (qV Q) 69 [some (.ref 54), some (vi x1), some (vi x2), some (vi (gI μ 59 (7 * x2))), some (vi (gI μ 59 ((7 * x2) + 6))), none, none, none] [vi t11, vi (gI μ 59 ((7 * x2) + 5))] μ 0 0 := by
    rintro _ rfl
    have P := P.2
    refine Z_iadd (pc' := 70) dX8_places_69 rfl ?_
    refine Z_istore (pc' := 72) (lo' := [some (.ref 54), some (vi x1), some (vi x2), some (vi (gI μ 59 (7 * x2))), some (vi (gI μ 59 ((7 * x2) + 6))), some (vi ((gI μ 59 ((7 * x2) + 5)) + (if (gI μ 55 80) = 0 then 0 else (if (gI μ 55 80) = 1 then ((gI μ 59 ((7 * x2) + 6)).tdiv 2) else (gI μ 59 ((7 * x2) + 6)))))), none, none]) dX8_places_70 rfl (by decide) rfl ?_
    refine Z_iload_n (pc' := 73) dX8_places_72 rfl rfl ?_
    refine Z_istore (pc' := 75) (lo' := [some (.ref 54), some (vi x1), some (vi x2), some (vi (gI μ 59 (7 * x2))), some (vi (gI μ 59 ((7 * x2) + 6))), some (vi ((gI μ 59 ((7 * x2) + 5)) + (if (gI μ 55 80) = 0 then 0 else (if (gI μ 55 80) = 1 then ((gI μ 59 ((7 * x2) + 6)).tdiv 2) else (gI μ 59 ((7 * x2) + 6)))))), some (vi (gI μ 59 (7 * x2))), none]) dX8_places_73 rfl (by decide) rfl ?_
    refine Z_wk [true, true, true, true, false, true, true, true] rfl ?_
    exact P
  have G := P.1
  have h7 := G.1
  have G := G.2
  refine Z_if_ne (tgt := 49) (pc' := 45) dX8_places_42 (by decide) rfl h7 (fun c8 => ?_) (fun c8 => ?_)
  · have G := G.2 c8
    refine Z_aload_n (pc' := 50) dX8_places_49 rfl rfl ?_
    refine Z_getR (q := 55) (pc' := 53) dX8_places_50 rfl fX8_7 rfl (Or.inl dd_54) (Or.inl rr_54_0) ?_
    refine Z_bipush (pc' := 55) dX8_places_53 rfl rfl ?_
    refine Z_iaload (pc' := 56) dX8_places_55 rfl (Or.inl dd_55) (Nat.le_of_ble_eq_true rfl) (by decide) (by decide) ?_
    refine Z_iconst (pc' := 57) dX8_places_56 rfl ?_
    refine Z_icmp_ne (tgt := 67) (pc' := 60) dX8_places_57 (by decide) rfl h7 (z_lit rfl) (fun c9 => ?_) (fun c9 => ?_)
    · refine Z_iload (pc' := 69) dX8_places_67 rfl rfl ?_
      refine Z_wk [true, true, true, true, true, false, false, false] rfl ?_
      exact K _ (by rw [if_neg c8, if_neg c9])
    · have G := G.1 c9
      refine Z_iload (pc' := 62) dX8_places_60 rfl rfl ?_
      refine Z_iconst (pc' := 63) dX8_places_62 rfl ?_
      have h10 := G
      refine Z_idiv (pc' := 64) dX8_places_63 rfl h10 (z_lit rfl) (by decide) ?_
      refine Z_goto (tgt := 69) dX8_places_64 (by decide) ?_
      refine Z_wk [true, true, true, true, true, false, false, false] rfl ?_
      exact K _ (by rw [if_neg c8, if_pos c9])
  · refine Z_iconst (pc' := 46) dX8_places_45 rfl ?_
    refine Z_goto (tgt := 69) dX8_places_46 (by decide) ?_
    refine Z_wk [true, true, true, true, true, false, false, false] rfl ?_
    exact K _ (by rw [if_pos c8])
theorem bX8_places_75 {d : Nat} {Q : zMem → Prop} {μ : zMem} {x1 : Int} {x2 : Int} {x3 : Int} {x5 : Int} {x6 : Int} (P : (0 ≤ ((7 * x2) + 1)) ∧ ((((7 * x2) + 1) < 98) ∧ ((zIn x6) ∧ ((zIn (x3 + (gI μ 59 ((7 * x2) + 1)))) ∧ (((x3 + (gI μ 59 ((7 * x2) + 1))) ≤ x6 → (Q μ)) ∧ (¬ ((x3 + (gI μ 59 ((7 * x2) + 1))) ≤ x6) → (kX8_sizeOf d x6 x1 μ (fun (r7 : Int) (μ6 : zMem) => (zIn x3) ∧ ((x6 ≤ x3 → (zX8_places_128 d Q x1 x2 x3 x6 r7 0 x5 μ6)) ∧ (¬ (x6 ≤ x3) → (kX8_sizeOf d (x6 - 1) x1 μ6 (fun (r11 : Int) (μ10 : zMem) => kX8_least d r7 r11 μ10 (fun (r13 : Int) (μ12 : zMem) => zX8_places_128 d Q x1 x2 x3 x6 r7 r13 x5 μ12))))))))))))) : zX8_places_75 d Q x1 x2 x3 x5 x6 μ := by
  refine Z_iload (pc' := 77) dX8_places_75 rfl rfl ?_
  refine Z_iload_n (pc' := 78) dX8_places_77 rfl rfl ?_
  refine Z_aload_n (pc' := 79) dX8_places_78 rfl rfl ?_
  refine Z_getR (q := 59) (pc' := 82) dX8_places_79 rfl fX8_23 rfl (Or.inl dd_54) (Or.inl rr_54_5) ?_
  refine Z_bipush (pc' := 84) dX8_places_82 rfl rfl ?_
  refine Z_iload_n (pc' := 85) dX8_places_84 rfl rfl ?_
  refine Z_imul (pc' := 86) dX8_places_85 rfl ?_
  refine Z_iconst (pc' := 87) dX8_places_86 rfl ?_
  refine Z_iadd (pc' := 88) dX8_places_87 rfl ?_
  have h1 := P.1
  have P := P.2
  have h2 := P.1
  have P := P.2
  refine Z_iaload (pc' := 89) dX8_places_88 rfl (Or.inl dd_59) (Nat.le_of_ble_eq_true rfl) h1 h2 ?_
  refine Z_iadd (pc' := 90) dX8_places_89 rfl ?_
  have h3 := P.1
  have P := P.2
  have h4 := P.1
  have P := P.2
  refine Z_icmp_ge (tgt := 209) (pc' := 93) dX8_places_90 (by decide) rfl h3 h4 (fun c5 => ?_) (fun c5 => ?_)
  · have P := P.1 c5
    exact Z_return dX8_places_209 rfl (Nat.le_refl 0) (Nat.le_refl 0) P
  · have P := P.2 c5
    refine Z_aload_n (pc' := 94) dX8_places_93 rfl rfl ?_
    refine Z_iload (pc' := 96) dX8_places_94 rfl rfl ?_
    refine Z_iload_n (pc' := 97) dX8_places_96 rfl rfl ?_
    refine Z_callV0 (M' := mX8_sizeOf) (pc' := 100) (st := []) [vi x6, vi x1] dX8_places_97 rfl vX8_sizeOf lX8_96 (Or.inl dd_54) rfl (Nat.le_of_ble_eq_true rfl) (Nat.le_refl 0) (Nat.le_refl 0) ?_
    refine Cl_mono P ?_
    rintro _ μ6 ⟨r7, rfl, P⟩
    show Z SS none mX8_places (d + 1) 0 0 (qV Q) 100 [some (.ref 54), some (vi x1), some (vi x2), some (vi x3), none, some (vi x5), some (vi x6), none] [vi r7] μ6 0 0
    refine Z_istore (pc' := 102) (lo' := [some (.ref 54), some (vi x1), some (vi x2), some (vi x3), none, some (vi x5), some (vi x6), some (vi r7)]) dX8_places_100 rfl (by decide) rfl ?_
    refine Z_iload (pc' := 104) dX8_places_102 rfl rfl ?_
    refine Z_iload (pc' := 106) dX8_places_104 rfl rfl ?_
    refine Z_iload_n (pc' := 107) dX8_places_106 rfl rfl ?_
    have h8 := P.1
    have P := P.2
    refine Z_icmp_le (tgt := 127) (pc' := 110) dX8_places_107 (by decide) rfl h3 h8 (fun c9 => ?_) (fun c9 => ?_)
    · have P := P.1 c9
      refine Z_iconst (pc' := 128) dX8_places_127 rfl ?_
      refine Z_wk [true, true, true, true, true, false, true, true] rfl ?_
      exact P
    · have P := P.2 c9
      refine Z_iload (pc' := 112) dX8_places_110 rfl rfl ?_
      refine Z_aload_n (pc' := 113) dX8_places_112 rfl rfl ?_
      refine Z_iload (pc' := 115) dX8_places_113 rfl rfl ?_
      refine Z_iconst (pc' := 116) dX8_places_115 rfl ?_
      refine Z_isub (pc' := 117) dX8_places_116 rfl ?_
      refine Z_iload_n (pc' := 118) dX8_places_117 rfl rfl ?_
      refine Z_callV0 (M' := mX8_sizeOf) (pc' := 121) (st := [vi r7, vi x5]) [vi (x6 - 1), vi x1] dX8_places_118 rfl vX8_sizeOf lX8_96 (Or.inl dd_54) rfl (Nat.le_of_ble_eq_true rfl) (Nat.le_refl 0) (Nat.le_refl 0) ?_
      refine Cl_mono P ?_
      rintro _ μ10 ⟨r11, rfl, P⟩
      show Z SS none mX8_places (d + 1) 0 0 (qV Q) 121 [some (.ref 54), some (vi x1), some (vi x2), some (vi x3), none, some (vi x5), some (vi x6), some (vi r7)] [vi r11, vi r7, vi x5] μ10 0 0
      refine Z_callS0 (M' := mX8_least) (pc' := 124) (st := [vi x5]) [vi r7, vi r11] dX8_places_121 rfl sX8_least lX8_105 rfl (Nat.le_of_ble_eq_true rfl) (Nat.le_refl 0) (Nat.le_refl 0) ?_
      refine Cl_mono P ?_
      rintro _ μ12 ⟨r13, rfl, P⟩
      show Z SS none mX8_places (d + 1) 0 0 (qV Q) 124 [some (.ref 54), some (vi x1), some (vi x2), some (vi x3), none, some (vi x5), some (vi x6), some (vi r7)] [vi r13, vi x5] μ12 0 0
      refine Z_goto (tgt := 128) dX8_places_124 (by decide) ?_
      refine Z_wk [true, true, true, true, true, false, true, true] rfl ?_
      exact P
theorem bX8_places_128 {d : Nat} {Q : zMem → Prop} {μ : zMem} {x1 : Int} {x2 : Int} {x3 : Int} {x6 : Int} {x7 : Int} {s0 : Int} {s1 : Int} (P : (0 ≤ (5 * x6)) ∧ (((5 * x6) < 70) ∧ (kX8_of d x6 0 (sI μ 60 (5 * x6) (s1 + s0)) (fun (r4 : Int) (μ3 : zMem) => (0 ≤ ((5 * x6) + 1)) ∧ ((((5 * x6) + 1) < 70) ∧ ((0 ≤ ((5 * x6) + 2)) ∧ ((((5 * x6) + 2) < 70) ∧ ((0 ≤ ((5 * x6) + 3)) ∧ ((((5 * x6) + 3) < 70) ∧ (kX8_of d x6 0 (sI (sI (sI μ3 60 ((5 * x6) + 1) (r4 * x7)) 60 ((5 * x6) + 2) x7) 60 ((5 * x6) + 3) x2) (fun (r12 : Int) (μ11 : zMem) => zX8_places_75 d Q x1 x2 x3 ((s1 + s0) + (r12 * x7)) (x6 + 1) μ11))))))))))) : zX8_places_128 d Q x1 x2 x3 x6 x7 s0 s1 μ := by
  refine Z_iadd (pc' := 129) dX8_places_128 rfl ?_
  refine Z_istore (pc' := 131) (lo' := [some (.ref 54), some (vi x1), some (vi x2), some (vi x3), none, some (vi (s1 + s0)), some (vi x6), some (vi x7)]) dX8_places_129 rfl (by decide) rfl ?_
  refine Z_aload_n (pc' := 132) dX8_places_131 rfl rfl ?_
  refine Z_getR (q := 60) (pc' := 135) dX8_places_132 rfl fX8_26 rfl (Or.inl dd_54) (Or.inl rr_54_6) ?_
  refine Z_iconst (pc' := 136) dX8_places_135 rfl ?_
  refine Z_iload (pc' := 138) dX8_places_136 rfl rfl ?_
  refine Z_imul (pc' := 139) dX8_places_138 rfl ?_
  refine Z_iload (pc' := 141) dX8_places_139 rfl rfl ?_
  have h1 := P.1
  have P := P.2
  have h2 := P.1
  have P := P.2
  refine Z_iastore (pc' := 142) dX8_places_141 rfl (Or.inl dd_60) (Nat.le_of_ble_eq_true rfl) h1 h2 ?_
  refine Z_aload_n (pc' := 143) dX8_places_142 rfl rfl ?_
  refine Z_getR (q := 60) (pc' := 146) dX8_places_143 rfl fX8_26 rfl (Or.inl dd_54) (Or.inl rr_54_6) ?_
  refine Z_iconst (pc' := 147) dX8_places_146 rfl ?_
  refine Z_iload (pc' := 149) dX8_places_147 rfl rfl ?_
  refine Z_imul (pc' := 150) dX8_places_149 rfl ?_
  refine Z_iconst (pc' := 151) dX8_places_150 rfl ?_
  refine Z_iadd (pc' := 152) dX8_places_151 rfl ?_
  refine Z_aload_n (pc' := 153) dX8_places_152 rfl rfl ?_
  refine Z_iload (pc' := 155) dX8_places_153 rfl rfl ?_
  refine Z_iconst (pc' := 156) dX8_places_155 rfl ?_
  refine Z_callV0 (M' := mX8_of) (pc' := 159) (st := [vi ((5 * x6) + 1), .ref 60]) [vi x6, vi 0] dX8_places_156 rfl vX8_of lX8_93 (Or.inl dd_54) rfl (Nat.le_of_ble_eq_true rfl) (Nat.le_refl 0) (Nat.le_refl 0) ?_
  refine Cl_mono P ?_
  rintro _ μ3 ⟨r4, rfl, P⟩
  show Z SS none mX8_places (d + 1) 0 0 (qV Q) 159 [some (.ref 54), some (vi x1), some (vi x2), some (vi x3), none, some (vi (s1 + s0)), some (vi x6), some (vi x7)] [vi r4, vi ((5 * x6) + 1), .ref 60] μ3 0 0
  refine Z_iload (pc' := 161) dX8_places_159 rfl rfl ?_
  refine Z_imul (pc' := 162) dX8_places_161 rfl ?_
  have h5 := P.1
  have P := P.2
  have h6 := P.1
  have P := P.2
  refine Z_iastore (pc' := 163) dX8_places_162 rfl (Or.inl dd_60) (Nat.le_of_ble_eq_true rfl) h5 h6 ?_
  refine Z_aload_n (pc' := 164) dX8_places_163 rfl rfl ?_
  refine Z_getR (q := 60) (pc' := 167) dX8_places_164 rfl fX8_26 rfl (Or.inl dd_54) (Or.inl rr_54_6) ?_
  refine Z_iconst (pc' := 168) dX8_places_167 rfl ?_
  refine Z_iload (pc' := 170) dX8_places_168 rfl rfl ?_
  refine Z_imul (pc' := 171) dX8_places_170 rfl ?_
  refine Z_iconst (pc' := 172) dX8_places_171 rfl ?_
  refine Z_iadd (pc' := 173) dX8_places_172 rfl ?_
  refine Z_iload (pc' := 175) dX8_places_173 rfl rfl ?_
  have h7 := P.1
  have P := P.2
  have h8 := P.1
  have P := P.2
  refine Z_iastore (pc' := 176) dX8_places_175 rfl (Or.inl dd_60) (Nat.le_of_ble_eq_true rfl) h7 h8 ?_
  refine Z_aload_n (pc' := 177) dX8_places_176 rfl rfl ?_
  refine Z_getR (q := 60) (pc' := 180) dX8_places_177 rfl fX8_26 rfl (Or.inl dd_54) (Or.inl rr_54_6) ?_
  refine Z_iconst (pc' := 181) dX8_places_180 rfl ?_
  refine Z_iload (pc' := 183) dX8_places_181 rfl rfl ?_
  refine Z_imul (pc' := 184) dX8_places_183 rfl ?_
  refine Z_iconst (pc' := 185) dX8_places_184 rfl ?_
  refine Z_iadd (pc' := 186) dX8_places_185 rfl ?_
  refine Z_iload_n (pc' := 187) dX8_places_186 rfl rfl ?_
  have h9 := P.1
  have P := P.2
  have h10 := P.1
  have P := P.2
  refine Z_iastore (pc' := 188) dX8_places_187 rfl (Or.inl dd_60) (Nat.le_of_ble_eq_true rfl) h9 h10 ?_
  refine Z_iload (pc' := 190) dX8_places_188 rfl rfl ?_
  refine Z_aload_n (pc' := 191) dX8_places_190 rfl rfl ?_
  refine Z_iload (pc' := 193) dX8_places_191 rfl rfl ?_
  refine Z_iconst (pc' := 194) dX8_places_193 rfl ?_
  refine Z_callV0 (M' := mX8_of) (pc' := 197) (st := [vi (s1 + s0)]) [vi x6, vi 0] dX8_places_194 rfl vX8_of lX8_93 (Or.inl dd_54) rfl (Nat.le_of_ble_eq_true rfl) (Nat.le_refl 0) (Nat.le_refl 0) ?_
  refine Cl_mono P ?_
  rintro _ μ11 ⟨r12, rfl, P⟩
  show Z SS none mX8_places (d + 1) 0 0 (qV Q) 197 [some (.ref 54), some (vi x1), some (vi x2), some (vi x3), none, some (vi (s1 + s0)), some (vi x6), some (vi x7)] [vi r12, vi (s1 + s0)] μ11 0 0
  refine Z_iload (pc' := 199) dX8_places_197 rfl rfl ?_
  refine Z_imul (pc' := 200) dX8_places_199 rfl ?_
  refine Z_iadd (pc' := 201) dX8_places_200 rfl ?_
  refine Z_istore (pc' := 203) (lo' := [some (.ref 54), some (vi x1), some (vi x2), some (vi x3), none, some (vi ((s1 + s0) + (r12 * x7))), some (vi x6), some (vi x7)]) dX8_places_201 rfl (by decide) rfl ?_
  refine Z_iinc (pc' := 206) (lo' := [some (.ref 54), some (vi x1), some (vi x2), some (vi x3), none, some (vi ((s1 + s0) + (r12 * x7))), some (vi (x6 + 1)), some (vi x7)]) dX8_places_203 rfl (by decide) rfl rfl ?_
  refine Z_goto (tgt := 75) dX8_places_206 (by decide) ?_
  refine Z_wk [true, true, true, true, true, true, true, false] rfl ?_
  exact P
theorem bX8_hasGap {d : Nat} {Q : Int → zMem → Prop} {μ : zMem} {x1 : Int} (P : (0 ≤ ((5 * x1) + 3)) ∧ ((((5 * x1) + 3) < 70) ∧ ((0 ≤ (7 * (gI μ 60 ((5 * x1) + 3)))) ∧ (((7 * (gI μ 60 ((5 * x1) + 3))) < 98) ∧ (((zIn x1) ∧ ((zIn (gI μ 59 (7 * (gI μ 60 ((5 * x1) + 3))))))) ∧ (Q (if x1 = (gI μ 59 (7 * (gI μ 60 ((5 * x1) + 3)))) then 0 else 1) μ)))))) : kX8_hasGap d x1 μ Q := by
  refine Cl_of rfl (Nat.le_of_ble_eq_true rfl) rfl ?_
  show Z SS none mX8_hasGap d 0 0 (qI Q) 0 [some (.ref 54), some (vi x1)] [] μ 0 0
  refine Z_iload_n (pc' := 1) dX8_hasGap_0 rfl rfl ?_
  refine Z_aload_n (pc' := 2) dX8_hasGap_1 rfl rfl ?_
  refine Z_getR (q := 59) (pc' := 5) dX8_hasGap_2 rfl fX8_23 rfl (Or.inl dd_54) (Or.inl rr_54_5) ?_
  refine Z_bipush (pc' := 7) dX8_hasGap_5 rfl rfl ?_
  refine Z_aload_n (pc' := 8) dX8_hasGap_7 rfl rfl ?_
  refine Z_getR (q := 60) (pc' := 11) dX8_hasGap_8 rfl fX8_26 rfl (Or.inl dd_54) (Or.inl rr_54_6) ?_
  refine Z_iconst (pc' := 12) dX8_hasGap_11 rfl ?_
  refine Z_iload_n (pc' := 13) dX8_hasGap_12 rfl rfl ?_
  refine Z_imul (pc' := 14) dX8_hasGap_13 rfl ?_
  refine Z_iconst (pc' := 15) dX8_hasGap_14 rfl ?_
  refine Z_iadd (pc' := 16) dX8_hasGap_15 rfl ?_
  have h1 := P.1
  have P := P.2
  have h2 := P.1
  have P := P.2
  refine Z_iaload (pc' := 17) dX8_hasGap_16 rfl (Or.inl dd_60) (Nat.le_of_ble_eq_true rfl) h1 h2 ?_
  refine Z_imul (pc' := 18) dX8_hasGap_17 rfl ?_
  have h3 := P.1
  have P := P.2
  have h4 := P.1
  have P := P.2
  refine Z_iaload (pc' := 19) dX8_hasGap_18 rfl (Or.inl dd_59) (Nat.le_of_ble_eq_true rfl) h3 h4 ?_
  have K : ∀ t8 : Int, t8 = (if x1 = (gI μ 59 (7 * (gI μ 60 ((5 * x1) + 3)))) then 0 else 1) → Z SS none mX8_hasGap d 0 0 (qI Q) 27 [some (.ref 54), some (vi x1)] [vi t8] μ 0 0 := by
    rintro _ rfl
    have P := P.2
    exact Z_zreturn dX8_hasGap_27 rfl (by (repeat' split) <;> simp) (Nat.le_refl 0) (Nat.le_refl 0) P
  have G := P.1
  have h5 := G.1
  have G := G.2
  have h6 := G
  refine Z_icmp_eq (tgt := 26) (pc' := 22) dX8_hasGap_19 (by decide) rfl h5 h6 (fun c7 => ?_) (fun c7 => ?_)
  · refine Z_iconst (pc' := 27) dX8_hasGap_26 rfl ?_
    exact K _ (by rw [if_pos c7])
  · refine Z_iconst (pc' := 23) dX8_hasGap_22 rfl ?_
    refine Z_goto (tgt := 27) dX8_hasGap_23 (by decide) ?_
    exact K _ (by rw [if_neg c7])
theorem bX8_gapFrom {d : Nat} {Q : Int → zMem → Prop} {μ : zMem} {x1 : Int} (P : (0 ≤ (5 * (x1 - 1))) ∧ (((5 * (x1 - 1)) < 70) ∧ ((0 ≤ ((5 * (x1 - 1)) + 1)) ∧ ((((5 * (x1 - 1)) + 1) < 70) ∧ (Q ((gI μ 60 (5 * (x1 - 1))) + (gI μ 60 ((5 * (x1 - 1)) + 1))) μ))))) : kX8_gapFrom d x1 μ Q := by
  refine Cl_of rfl (Nat.le_of_ble_eq_true rfl) rfl ?_
  show Z SS none mX8_gapFrom d 0 0 (qI Q) 0 [some (.ref 54), some (vi x1)] [] μ 0 0
  refine Z_aload_n (pc' := 1) dX8_gapFrom_0 rfl rfl ?_
  refine Z_getR (q := 60) (pc' := 4) dX8_gapFrom_1 rfl fX8_26 rfl (Or.inl dd_54) (Or.inl rr_54_6) ?_
  refine Z_iconst (pc' := 5) dX8_gapFrom_4 rfl ?_
  refine Z_iload_n (pc' := 6) dX8_gapFrom_5 rfl rfl ?_
  refine Z_iconst (pc' := 7) dX8_gapFrom_6 rfl ?_
  refine Z_isub (pc' := 8) dX8_gapFrom_7 rfl ?_
  refine Z_imul (pc' := 9) dX8_gapFrom_8 rfl ?_
  have h1 := P.1
  have P := P.2
  have h2 := P.1
  have P := P.2
  refine Z_iaload (pc' := 10) dX8_gapFrom_9 rfl (Or.inl dd_60) (Nat.le_of_ble_eq_true rfl) h1 h2 ?_
  refine Z_aload_n (pc' := 11) dX8_gapFrom_10 rfl rfl ?_
  refine Z_getR (q := 60) (pc' := 14) dX8_gapFrom_11 rfl fX8_26 rfl (Or.inl dd_54) (Or.inl rr_54_6) ?_
  refine Z_iconst (pc' := 15) dX8_gapFrom_14 rfl ?_
  refine Z_iload_n (pc' := 16) dX8_gapFrom_15 rfl rfl ?_
  refine Z_iconst (pc' := 17) dX8_gapFrom_16 rfl ?_
  refine Z_isub (pc' := 18) dX8_gapFrom_17 rfl ?_
  refine Z_imul (pc' := 19) dX8_gapFrom_18 rfl ?_
  refine Z_iconst (pc' := 20) dX8_gapFrom_19 rfl ?_
  refine Z_iadd (pc' := 21) dX8_gapFrom_20 rfl ?_
  have h3 := P.1
  have P := P.2
  have h4 := P.1
  have P := P.2
  refine Z_iaload (pc' := 22) dX8_gapFrom_21 rfl (Or.inl dd_60) (Nat.le_of_ble_eq_true rfl) h3 h4 ?_
  refine Z_iadd (pc' := 23) dX8_gapFrom_22 rfl ?_
  exact Z_ireturn dX8_gapFrom_23 rfl (Nat.le_refl 0) (Nat.le_refl 0) P
theorem bX8_touch {d : Nat} {Q : Int → zMem → Prop} {μ : zMem} {x1 : Int} {x2 : Int} (P : kX8_hasGap d x1 μ (fun (r2 : Int) (μ1 : zMem) => (zIn r2) ∧ ((r2 = 0 → (Q 0 μ1)) ∧ (¬ (r2 = 0) → (kX8_hasGap d x2 μ1 (fun (r6 : Int) (μ5 : zMem) => (zIn r6) ∧ ((r6 = 0 → (Q 0 μ5)) ∧ (¬ (r6 = 0) → (kX8_gapFrom d x1 μ5 (fun (r10 : Int) (μ9 : zMem) => (0 ≤ (5 * x2)) ∧ (((5 * x2) < 70) ∧ ((zIn r10) ∧ ((zIn (gI μ9 60 (5 * x2))) ∧ (((gI μ9 60 (5 * x2)) ≤ r10 → (Q 0 μ9)) ∧ (¬ ((gI μ9 60 (5 * x2)) ≤ r10) → (kX8_gapFrom d x2 μ9 (fun (r17 : Int) (μ16 : zMem) => (0 ≤ (5 * x1)) ∧ (((5 * x1) < 70) ∧ (((zIn r17) ∧ ((zIn (gI μ16 60 (5 * x1))))) ∧ (Q (if (gI μ16 60 (5 * x1)) ≤ r17 then 0 else 1) μ16)))))))))))))))))))) : kX8_touch (d + 1) x1 x2 μ Q := by
  refine Cl_of rfl (Nat.le_of_ble_eq_true rfl) rfl ?_
  show Z SS none mX8_touch (d + 1) 0 0 (qI Q) 0 [some (.ref 54), some (vi x1), some (vi x2)] [] μ 0 0
  refine Z_aload_n (pc' := 1) dX8_touch_0 rfl rfl ?_
  refine Z_iload_n (pc' := 2) dX8_touch_1 rfl rfl ?_
  refine Z_callV0 (M' := mX8_hasGap) (pc' := 5) (st := []) [vi x1] dX8_touch_2 rfl vX8_hasGap lX8_120 (Or.inl dd_54) rfl (Nat.le_of_ble_eq_true rfl) (Nat.le_refl 0) (Nat.le_refl 0) ?_
  refine Cl_mono P ?_
  rintro _ μ1 ⟨r2, rfl, P⟩
  show Z SS none mX8_touch (d + 1) 0 0 (qI Q) 5 [some (.ref 54), some (vi x1), some (vi x2)] [vi r2] μ1 0 0
  have h3 := P.1
  have P := P.2
  refine Z_if_eq (tgt := 52) (pc' := 8) dX8_touch_5 (by decide) rfl h3 (fun c4 => ?_) (fun c4 => ?_)
  · have P := P.1 c4
    refine Z_iconst (pc' := 53) dX8_touch_52 rfl ?_
    exact Z_zreturn dX8_touch_53 rfl (Or.inl rfl) (Nat.le_refl 0) (Nat.le_refl 0) P
  · have P := P.2 c4
    refine Z_aload_n (pc' := 9) dX8_touch_8 rfl rfl ?_
    refine Z_iload_n (pc' := 10) dX8_touch_9 rfl rfl ?_
    refine Z_callV0 (M' := mX8_hasGap) (pc' := 13) (st := []) [vi x2] dX8_touch_10 rfl vX8_hasGap lX8_120 (Or.inl dd_54) rfl (Nat.le_of_ble_eq_true rfl) (Nat.le_refl 0) (Nat.le_refl 0) ?_
    refine Cl_mono P ?_
    rintro _ μ5 ⟨r6, rfl, P⟩
    show Z SS none mX8_touch (d + 1) 0 0 (qI Q) 13 [some (.ref 54), some (vi x1), some (vi x2)] [vi r6] μ5 0 0
    have h7 := P.1
    have P := P.2
    refine Z_if_eq (tgt := 52) (pc' := 16) dX8_touch_13 (by decide) rfl h7 (fun c8 => ?_) (fun c8 => ?_)
    · have P := P.1 c8
      refine Z_iconst (pc' := 53) dX8_touch_52 rfl ?_
      exact Z_zreturn dX8_touch_53 rfl (Or.inl rfl) (Nat.le_refl 0) (Nat.le_refl 0) P
    · have P := P.2 c8
      refine Z_aload_n (pc' := 17) dX8_touch_16 rfl rfl ?_
      refine Z_iload_n (pc' := 18) dX8_touch_17 rfl rfl ?_
      refine Z_callV0 (M' := mX8_gapFrom) (pc' := 21) (st := []) [vi x1] dX8_touch_18 rfl vX8_gapFrom lX8_123 (Or.inl dd_54) rfl (Nat.le_of_ble_eq_true rfl) (Nat.le_refl 0) (Nat.le_refl 0) ?_
      refine Cl_mono P ?_
      rintro _ μ9 ⟨r10, rfl, P⟩
      show Z SS none mX8_touch (d + 1) 0 0 (qI Q) 21 [some (.ref 54), some (vi x1), some (vi x2)] [vi r10] μ9 0 0
      refine Z_aload_n (pc' := 22) dX8_touch_21 rfl rfl ?_
      refine Z_getR (q := 60) (pc' := 25) dX8_touch_22 rfl fX8_26 rfl (Or.inl dd_54) (Or.inl rr_54_6) ?_
      refine Z_iconst (pc' := 26) dX8_touch_25 rfl ?_
      refine Z_iload_n (pc' := 27) dX8_touch_26 rfl rfl ?_
      refine Z_imul (pc' := 28) dX8_touch_27 rfl ?_
      have h11 := P.1
      have P := P.2
      have h12 := P.1
      have P := P.2
      refine Z_iaload (pc' := 29) dX8_touch_28 rfl (Or.inl dd_60) (Nat.le_of_ble_eq_true rfl) h11 h12 ?_
      have h13 := P.1
      have P := P.2
      have h14 := P.1
      have P := P.2
      refine Z_icmp_ge (tgt := 52) (pc' := 32) dX8_touch_29 (by decide) rfl h13 h14 (fun c15 => ?_) (fun c15 => ?_)
      · have P := P.1 c15
        refine Z_iconst (pc' := 53) dX8_touch_52 rfl ?_
        exact Z_zreturn dX8_touch_53 rfl (Or.inl rfl) (Nat.le_refl 0) (Nat.le_refl 0) P
      · have P := P.2 c15
        refine Z_aload_n (pc' := 33) dX8_touch_32 rfl rfl ?_
        refine Z_iload_n (pc' := 34) dX8_touch_33 rfl rfl ?_
        refine Z_callV0 (M' := mX8_gapFrom) (pc' := 37) (st := []) [vi x2] dX8_touch_34 rfl vX8_gapFrom lX8_123 (Or.inl dd_54) rfl (Nat.le_of_ble_eq_true rfl) (Nat.le_refl 0) (Nat.le_refl 0) ?_
        refine Cl_mono P ?_
        rintro _ μ16 ⟨r17, rfl, P⟩
        show Z SS none mX8_touch (d + 1) 0 0 (qI Q) 37 [some (.ref 54), some (vi x1), some (vi x2)] [vi r17] μ16 0 0
        refine Z_aload_n (pc' := 38) dX8_touch_37 rfl rfl ?_
        refine Z_getR (q := 60) (pc' := 41) dX8_touch_38 rfl fX8_26 rfl (Or.inl dd_54) (Or.inl rr_54_6) ?_
        refine Z_iconst (pc' := 42) dX8_touch_41 rfl ?_
        refine Z_iload_n (pc' := 43) dX8_touch_42 rfl rfl ?_
        refine Z_imul (pc' := 44) dX8_touch_43 rfl ?_
        have h18 := P.1
        have P := P.2
        have h19 := P.1
        have P := P.2
        refine Z_iaload (pc' := 45) dX8_touch_44 rfl (Or.inl dd_60) (Nat.le_of_ble_eq_true rfl) h18 h19 ?_
        have K : ∀ t23 : Int, t23 = (if (gI μ16 60 (5 * x1)) ≤ r17 then 0 else 1) → Z SS none mX8_touch (d + 1) 0 0 (qI Q) 53 [some (.ref 54), some (vi x1), some (vi x2)] [vi t23] μ16 0 0 := by
          rintro _ rfl
          have P := P.2
          exact Z_zreturn dX8_touch_53 rfl (by (repeat' split) <;> simp) (Nat.le_refl 0) (Nat.le_refl 0) P
        have G := P.1
        have h20 := G.1
        have G := G.2
        have h21 := G
        refine Z_icmp_ge (tgt := 52) (pc' := 48) dX8_touch_45 (by decide) rfl h20 h21 (fun c22 => ?_) (fun c22 => ?_)
        · refine Z_iconst (pc' := 53) dX8_touch_52 rfl ?_
          exact K _ (by rw [if_pos c22])
        · refine Z_iconst (pc' := 49) dX8_touch_48 rfl ?_
          refine Z_goto (tgt := 53) dX8_touch_49 (by decide) ?_
          exact K _ (by rw [if_neg c22])
abbrev zX8_chainsUp_29 (d : Nat) (Q : zMem → Prop) (x1 : Int) (x2 : Int) (x3 : Int) (x4 : Int) (μ : zMem) : Prop := Z SS none mX8_chainsUp (d + 1) 0 0 (qV Q) 29 [some (.ref 54), some (vi x1), some (vi x2), some (vi x3), some (vi x4), none] [] μ 0 0
abbrev zX8_chainsUp_59 (d : Nat) (Q : zMem → Prop) (x1 : Int) (x2 : Int) (x3 : Int) (x4 : Int) (x5 : Int) (μ : zMem) : Prop := Z SS none mX8_chainsUp (d + 1) 0 0 (qV Q) 59 [some (.ref 54), some (vi x1), some (vi x2), some (vi x3), some (vi x4), some (vi x5)] [] μ 0 0
theorem bX8_chainsUp {d : Nat} {Q : zMem → Prop} {μ : zMem} {x1 : Int} {x2 : Int} (P : ((zIn (gI μ 54 7)) ∧ (((gI μ 54 7) = 0 → True) ∧ (¬ ((gI μ 54 7) = 0) → ((0 ≤ (7 * ((gI μ 54 7) - 1))) ∧ (((7 * ((gI μ 54 7) - 1)) < 98)))))) ∧ (zX8_chainsUp_29 d Q x1 x2 (if (gI μ 54 7) = 0 then x1 else (gI μ 59 (7 * ((gI μ 54 7) - 1)))) x1 μ)) : kX8_chainsUp (d + 1) x1 x2 μ Q := by
  refine Cl_of rfl (Nat.le_of_ble_eq_true rfl) rfl ?_
  show Z SS none mX8_chainsUp (d + 1) 0 0 (qV Q) 0 [some (.ref 54), some (vi x1), some (vi x2), none, none, none] [] μ 0 0
  refine Z_aload_n (pc' := 1) dX8_chainsUp_0 rfl rfl ?_
  refine Z_getI' (ji := 7) (pc' := 4) dX8_chainsUp_1 rfl rfl fX8_99 rfl (Or.inl dd_54) ?_
  have K : ∀ t5 : Int, t5 = (if (gI μ 54 7) = 0 then x1 else (gI μ 59 (7 * ((gI μ 54 7) - 1)))) → Z SS none mX8_chainsUp (d + 1) 0 0 (qV Q) 25 [some (.ref 54), some (vi x1), some (vi x2), none, none, none] [vi t5] μ 0 0 := by
    rintro _ rfl
    have P := P.2
    refine Z_istore_n (pc' := 26) (lo' := [some (.ref 54), some (vi x1), some (vi x2), some (vi (if (gI μ 54 7) = 0 then x1 else (gI μ 59 (7 * ((gI μ 54 7) - 1))))), none, none]) dX8_chainsUp_25 rfl (by decide) rfl ?_
    refine Z_iload_n (pc' := 27) dX8_chainsUp_26 rfl rfl ?_
    refine Z_istore (pc' := 29) (lo' := [some (.ref 54), some (vi x1), some (vi x2), some (vi (if (gI μ 54 7) = 0 then x1 else (gI μ 59 (7 * ((gI μ 54 7) - 1))))), some (vi x1), none]) dX8_chainsUp_27 rfl (by decide) rfl ?_
    exact P
  have G := P.1
  have h1 := G.1
  have G := G.2
  refine Z_if_ne (tgt := 11) (pc' := 7) dX8_chainsUp_4 (by decide) rfl h1 (fun c2 => ?_) (fun c2 => ?_)
  · have G := G.2 c2
    refine Z_aload_n (pc' := 12) dX8_chainsUp_11 rfl rfl ?_
    refine Z_getR (q := 59) (pc' := 15) dX8_chainsUp_12 rfl fX8_23 rfl (Or.inl dd_54) (Or.inl rr_54_5) ?_
    refine Z_bipush (pc' := 17) dX8_chainsUp_15 rfl rfl ?_
    refine Z_aload_n (pc' := 18) dX8_chainsUp_17 rfl rfl ?_
    refine Z_getI' (ji := 7) (pc' := 21) dX8_chainsUp_18 rfl rfl fX8_99 rfl (Or.inl dd_54) ?_
    refine Z_iconst (pc' := 22) dX8_chainsUp_21 rfl ?_
    refine Z_isub (pc' := 23) dX8_chainsUp_22 rfl ?_
    refine Z_imul (pc' := 24) dX8_chainsUp_23 rfl ?_
    have h3 := G.1
    have G := G.2
    have h4 := G
    refine Z_iaload (pc' := 25) dX8_chainsUp_24 rfl (Or.inl dd_59) (Nat.le_of_ble_eq_true rfl) h3 h4 ?_
    refine Z_wk [true, true, true, false, false, false] rfl ?_
    exact K _ (by rw [if_neg c2])
  · refine Z_iload_n (pc' := 8) dX8_chainsUp_7 rfl rfl ?_
    refine Z_goto (tgt := 25) dX8_chainsUp_8 (by decide) ?_
    refine Z_wk [true, true, true, false, false, false] rfl ?_
    exact K _ (by rw [if_pos c2])
theorem bX8_chainsUp_29 {d : Nat} {Q : zMem → Prop} {μ : zMem} {x1 : Int} {x2 : Int} {x3 : Int} {x4 : Int} (P : (zIn x4) ∧ ((zIn x2) ∧ ((x2 ≤ x4 → (Q μ)) ∧ (¬ (x2 ≤ x4) → (kX8_hasGap d x4 μ (fun (r5 : Int) (μ4 : zMem) => ((zIn r5)) ∧ ((0 ≤ x4) ∧ ((x4 < 14) ∧ (zX8_chainsUp_59 d Q x1 x2 x3 x4 x3 (sI μ4 61 x4 (if r5 = 0 then 0 else 1))))))))))) : zX8_chainsUp_29 d Q x1 x2 x3 x4 μ := by
  refine Z_iload (pc' := 31) dX8_chainsUp_29 rfl rfl ?_
  refine Z_iload_n (pc' := 32) dX8_chainsUp_31 rfl rfl ?_
  have h1 := P.1
  have P := P.2
  have h2 := P.1
  have P := P.2
  refine Z_icmp_ge (tgt := 174) (pc' := 35) dX8_chainsUp_32 (by decide) rfl h1 h2 (fun c3 => ?_) (fun c3 => ?_)
  · have P := P.1 c3
    exact Z_return dX8_chainsUp_174 rfl (Nat.le_refl 0) (Nat.le_refl 0) P
  · have P := P.2 c3
    refine Z_aload_n (pc' := 36) dX8_chainsUp_35 rfl rfl ?_
    refine Z_getR (q := 61) (pc' := 39) dX8_chainsUp_36 rfl fX8_29 rfl (Or.inl dd_54) (Or.inl rr_54_8) ?_
    refine Z_iload (pc' := 41) dX8_chainsUp_39 rfl rfl ?_
    refine Z_aload_n (pc' := 42) dX8_chainsUp_41 rfl rfl ?_
    refine Z_iload (pc' := 44) dX8_chainsUp_42 rfl rfl ?_
    refine Z_callV0 (M' := mX8_hasGap) (pc' := 47) (st := [vi x4, .ref 61]) [vi x4] dX8_chainsUp_44 rfl vX8_hasGap lX8_120 (Or.inl dd_54) rfl (Nat.le_of_ble_eq_true rfl) (Nat.le_refl 0) (Nat.le_refl 0) ?_
    refine Cl_mono P ?_
    rintro _ μ4 ⟨r5, rfl, P⟩
    show Z SS none mX8_chainsUp (d + 1) 0 0 (qV Q) 47 [some (.ref 54), some (vi x1), some (vi x2), some (vi x3), some (vi x4), none] [vi r5, vi x4, .ref 61] μ4 0 0
    have K : ∀ t8 : Int, t8 = (if r5 = 0 then 0 else 1) → Z SS none mX8_chainsUp (d + 1) 0 0 (qV Q) 55 [some (.ref 54), some (vi x1), some (vi x2), some (vi x3), some (vi x4), none] [vi t8, vi x4, .ref 61] μ4 0 0 := by
      rintro _ rfl
      have P := P.2
      have h9 := P.1
      have P := P.2
      have h10 := P.1
      have P := P.2
      refine Z_iastore (pc' := 56) dX8_chainsUp_55 rfl (Or.inl dd_61) (Nat.le_of_ble_eq_true rfl) h9 h10 ?_
      refine Z_iload_n (pc' := 57) dX8_chainsUp_56 rfl rfl ?_
      refine Z_istore (pc' := 59) (lo' := [some (.ref 54), some (vi x1), some (vi x2), some (vi x3), some (vi x4), some (vi x3)]) dX8_chainsUp_57 rfl (by decide) rfl ?_
      exact P
    have G := P.1
    have h6 := G
    refine Z_if_eq (tgt := 54) (pc' := 50) dX8_chainsUp_47 (by decide) rfl h6 (fun c7 => ?_) (fun c7 => ?_)
    · refine Z_iconst (pc' := 55) dX8_chainsUp_54 rfl ?_
      refine Z_wk [true, true, true, true, true, false] rfl ?_
      exact K _ (by rw [if_pos c7])
    · refine Z_iconst (pc' := 51) dX8_chainsUp_50 rfl ?_
      refine Z_goto (tgt := 55) dX8_chainsUp_51 (by decide) ?_
      refine Z_wk [true, true, true, true, true, false] rfl ?_
      exact K _ (by rw [if_neg c7])
theorem bX8_chainsUp_59 {d : Nat} {Q : zMem → Prop} {μ : zMem} {x1 : Int} {x2 : Int} {x3 : Int} {x4 : Int} {x5 : Int} (P : (zIn x5) ∧ ((zIn x1) ∧ ((x1 ≤ x5 → ((0 ≤ x4) ∧ ((x4 < 14) ∧ (((zIn (gI μ 61 x4)) ∧ ((zIn (gI μ 54 10)))) ∧ (zX8_chainsUp_29 d Q x1 x2 x3 (x4 + 1) (sI μ 54 10 (if (gI μ 61 x4) ≤ (gI μ 54 10) then (gI μ 54 10) else (gI μ 61 x4)))))))) ∧ (¬ (x1 ≤ x5) → (kX8_hasGap d x4 μ (fun (r11 : Int) (μ10 : zMem) => (zIn r11) ∧ ((r11 = 0 → ((0 ≤ x4) ∧ ((x4 < 14) ∧ (((zIn (gI μ10 61 x4)) ∧ ((zIn (gI μ10 54 10)))) ∧ (zX8_chainsUp_29 d Q x1 x2 x3 (x4 + 1) (sI μ10 54 10 (if (gI μ10 61 x4) ≤ (gI μ10 54 10) then (gI μ10 54 10) else (gI μ10 61 x4)))))))) ∧ (¬ (r11 = 0) → (kX8_touch d x5 x4 μ10 (fun (r21 : Int) (μ20 : zMem) => ((zIn r21) ∧ ((r21 = 0 → ((0 ≤ x4) ∧ ((x4 < 14)))) ∧ (¬ (r21 = 0) → ((0 ≤ x5) ∧ ((x5 < 14) ∧ ((0 ≤ x4) ∧ ((x4 < 14) ∧ ((zIn ((gI μ20 61 x5) + 1)) ∧ ((zIn (gI μ20 61 x4))))))))))) ∧ ((0 ≤ x4) ∧ ((x4 < 14) ∧ (zX8_chainsUp_59 d Q x1 x2 x3 x4 (x5 + 1) (sI μ20 61 x4 (if r21 = 0 then (gI μ20 61 x4) else (if ((gI μ20 61 x5) + 1) ≤ (gI μ20 61 x4) then (gI μ20 61 x4) else ((gI μ20 61 x5) + 1))))))))))))))))) : zX8_chainsUp_59 d Q x1 x2 x3 x4 x5 μ := by
  refine Z_iload (pc' := 61) dX8_chainsUp_59 rfl rfl ?_
  refine Z_iload_n (pc' := 62) dX8_chainsUp_61 rfl rfl ?_
  have h1 := P.1
  have P := P.2
  have h2 := P.1
  have P := P.2
  refine Z_icmp_ge (tgt := 136) (pc' := 65) dX8_chainsUp_62 (by decide) rfl h1 h2 (fun c3 => ?_) (fun c3 => ?_)
  · have P := P.1 c3
    refine Z_aload_n (pc' := 137) dX8_chainsUp_136 rfl rfl ?_
    refine Z_aload_n (pc' := 138) dX8_chainsUp_137 rfl rfl ?_
    refine Z_getR (q := 61) (pc' := 141) dX8_chainsUp_138 rfl fX8_29 rfl (Or.inl dd_54) (Or.inl rr_54_8) ?_
    refine Z_iload (pc' := 143) dX8_chainsUp_141 rfl rfl ?_
    have h4 := P.1
    have P := P.2
    have h5 := P.1
    have P := P.2
    refine Z_iaload (pc' := 144) dX8_chainsUp_143 rfl (Or.inl dd_61) (Nat.le_of_ble_eq_true rfl) h4 h5 ?_
    refine Z_aload_n (pc' := 145) dX8_chainsUp_144 rfl rfl ?_
    refine Z_getI' (ji := 10) (pc' := 148) dX8_chainsUp_145 rfl rfl fX8_102 rfl (Or.inl dd_54) ?_
    have K : ∀ t9 : Int, t9 = (if (gI μ 61 x4) ≤ (gI μ 54 10) then (gI μ 54 10) else (gI μ 61 x4)) → Z SS none mX8_chainsUp (d + 1) 0 0 (qV Q) 165 [some (.ref 54), some (vi x1), some (vi x2), some (vi x3), some (vi x4), some (vi x5)] [vi t9, .ref 54] μ 0 0 := by
      rintro _ rfl
      have P := P.2
      refine Z_putI' (ji := 10) (pc' := 168) dX8_chainsUp_165 rfl rfl fX8_102 (Or.inl rfl) rfl (Or.inl dd_54) ?_
      refine Z_iinc (pc' := 171) (lo' := [some (.ref 54), some (vi x1), some (vi x2), some (vi x3), some (vi (x4 + 1)), some (vi x5)]) dX8_chainsUp_168 rfl (by decide) rfl rfl ?_
      refine Z_goto (tgt := 29) dX8_chainsUp_171 (by decide) ?_
      refine Z_wk [true, true, true, true, true, false] rfl ?_
      exact P
    have G := P.1
    have h6 := G.1
    have G := G.2
    have h7 := G
    refine Z_icmp_le (tgt := 161) (pc' := 151) dX8_chainsUp_148 (by decide) rfl h6 h7 (fun c8 => ?_) (fun c8 => ?_)
    · refine Z_aload_n (pc' := 162) dX8_chainsUp_161 rfl rfl ?_
      refine Z_getI' (ji := 10) (pc' := 165) dX8_chainsUp_162 rfl rfl fX8_102 rfl (Or.inl dd_54) ?_
      exact K _ (by rw [if_pos c8])
    · refine Z_aload_n (pc' := 152) dX8_chainsUp_151 rfl rfl ?_
      refine Z_getR (q := 61) (pc' := 155) dX8_chainsUp_152 rfl fX8_29 rfl (Or.inl dd_54) (Or.inl rr_54_8) ?_
      refine Z_iload (pc' := 157) dX8_chainsUp_155 rfl rfl ?_
      refine Z_iaload (pc' := 158) dX8_chainsUp_157 rfl (Or.inl dd_61) (Nat.le_of_ble_eq_true rfl) h4 h5 ?_
      refine Z_goto (tgt := 165) dX8_chainsUp_158 (by decide) ?_
      exact K _ (by rw [if_neg c8])
  · have P := P.2 c3
    refine Z_aload_n (pc' := 66) dX8_chainsUp_65 rfl rfl ?_
    refine Z_iload (pc' := 68) dX8_chainsUp_66 rfl rfl ?_
    refine Z_callV0 (M' := mX8_hasGap) (pc' := 71) (st := []) [vi x4] dX8_chainsUp_68 rfl vX8_hasGap lX8_120 (Or.inl dd_54) rfl (Nat.le_of_ble_eq_true rfl) (Nat.le_refl 0) (Nat.le_refl 0) ?_
    refine Cl_mono P ?_
    rintro _ μ10 ⟨r11, rfl, P⟩
    show Z SS none mX8_chainsUp (d + 1) 0 0 (qV Q) 71 [some (.ref 54), some (vi x1), some (vi x2), some (vi x3), some (vi x4), some (vi x5)] [vi r11] μ10 0 0
    have h12 := P.1
    have P := P.2
    refine Z_if_eq (tgt := 136) (pc' := 74) dX8_chainsUp_71 (by decide) rfl h12 (fun c13 => ?_) (fun c13 => ?_)
    · have P := P.1 c13
      refine Z_aload_n (pc' := 137) dX8_chainsUp_136 rfl rfl ?_
      refine Z_aload_n (pc' := 138) dX8_chainsUp_137 rfl rfl ?_
      refine Z_getR (q := 61) (pc' := 141) dX8_chainsUp_138 rfl fX8_29 rfl (Or.inl dd_54) (Or.inl rr_54_8) ?_
      refine Z_iload (pc' := 143) dX8_chainsUp_141 rfl rfl ?_
      have h14 := P.1
      have P := P.2
      have h15 := P.1
      have P := P.2
      refine Z_iaload (pc' := 144) dX8_chainsUp_143 rfl (Or.inl dd_61) (Nat.le_of_ble_eq_true rfl) h14 h15 ?_
      refine Z_aload_n (pc' := 145) dX8_chainsUp_144 rfl rfl ?_
      refine Z_getI' (ji := 10) (pc' := 148) dX8_chainsUp_145 rfl rfl fX8_102 rfl (Or.inl dd_54) ?_
      have K : ∀ t19 : Int, t19 = (if (gI μ10 61 x4) ≤ (gI μ10 54 10) then (gI μ10 54 10) else (gI μ10 61 x4)) → Z SS none mX8_chainsUp (d + 1) 0 0 (qV Q) 165 [some (.ref 54), some (vi x1), some (vi x2), some (vi x3), some (vi x4), some (vi x5)] [vi t19, .ref 54] μ10 0 0 := by
        rintro _ rfl
        have P := P.2
        refine Z_putI' (ji := 10) (pc' := 168) dX8_chainsUp_165 rfl rfl fX8_102 (Or.inl rfl) rfl (Or.inl dd_54) ?_
        refine Z_iinc (pc' := 171) (lo' := [some (.ref 54), some (vi x1), some (vi x2), some (vi x3), some (vi (x4 + 1)), some (vi x5)]) dX8_chainsUp_168 rfl (by decide) rfl rfl ?_
        refine Z_goto (tgt := 29) dX8_chainsUp_171 (by decide) ?_
        refine Z_wk [true, true, true, true, true, false] rfl ?_
        exact P
      have G := P.1
      have h16 := G.1
      have G := G.2
      have h17 := G
      refine Z_icmp_le (tgt := 161) (pc' := 151) dX8_chainsUp_148 (by decide) rfl h16 h17 (fun c18 => ?_) (fun c18 => ?_)
      · refine Z_aload_n (pc' := 162) dX8_chainsUp_161 rfl rfl ?_
        refine Z_getI' (ji := 10) (pc' := 165) dX8_chainsUp_162 rfl rfl fX8_102 rfl (Or.inl dd_54) ?_
        exact K _ (by rw [if_pos c18])
      · refine Z_aload_n (pc' := 152) dX8_chainsUp_151 rfl rfl ?_
        refine Z_getR (q := 61) (pc' := 155) dX8_chainsUp_152 rfl fX8_29 rfl (Or.inl dd_54) (Or.inl rr_54_8) ?_
        refine Z_iload (pc' := 157) dX8_chainsUp_155 rfl rfl ?_
        refine Z_iaload (pc' := 158) dX8_chainsUp_157 rfl (Or.inl dd_61) (Nat.le_of_ble_eq_true rfl) h14 h15 ?_
        refine Z_goto (tgt := 165) dX8_chainsUp_158 (by decide) ?_
        exact K _ (by rw [if_neg c18])
    · have P := P.2 c13
      refine Z_aload_n (pc' := 75) dX8_chainsUp_74 rfl rfl ?_
      refine Z_getR (q := 61) (pc' := 78) dX8_chainsUp_75 rfl fX8_29 rfl (Or.inl dd_54) (Or.inl rr_54_8) ?_
      refine Z_iload (pc' := 80) dX8_chainsUp_78 rfl rfl ?_
      refine Z_aload_n (pc' := 81) dX8_chainsUp_80 rfl rfl ?_
      refine Z_iload (pc' := 83) dX8_chainsUp_81 rfl rfl ?_
      refine Z_iload (pc' := 85) dX8_chainsUp_83 rfl rfl ?_
      refine Z_callV0 (M' := mX8_touch) (pc' := 88) (st := [vi x4, .ref 61]) [vi x5, vi x4] dX8_chainsUp_85 rfl vX8_touch lX8_126 (Or.inl dd_54) rfl (Nat.le_of_ble_eq_true rfl) (Nat.le_refl 0) (Nat.le_refl 0) ?_
      refine Cl_mono P ?_
      rintro _ μ20 ⟨r21, rfl, P⟩
      show Z SS none mX8_chainsUp (d + 1) 0 0 (qV Q) 88 [some (.ref 54), some (vi x1), some (vi x2), some (vi x3), some (vi x4), some (vi x5)] [vi r21, vi x4, .ref 61] μ20 0 0
      have K : ∀ t33 : Int, t33 = (if r21 = 0 then (gI μ20 61 x4) else (if ((gI μ20 61 x5) + 1) ≤ (gI μ20 61 x4) then (gI μ20 61 x4) else ((gI μ20 61 x5) + 1))) → Z SS none mX8_chainsUp (d + 1) 0 0 (qV Q) 129 [some (.ref 54), some (vi x1), some (vi x2), some (vi x3), some (vi x4), some (vi x5)] [vi t33, vi x4, .ref 61] μ20 0 0 := by
        rintro _ rfl
        have P := P.2
        have h34 := P.1
        have P := P.2
        have h35 := P.1
        have P := P.2
        refine Z_iastore (pc' := 130) dX8_chainsUp_129 rfl (Or.inl dd_61) (Nat.le_of_ble_eq_true rfl) h34 h35 ?_
        refine Z_iinc (pc' := 133) (lo' := [some (.ref 54), some (vi x1), some (vi x2), some (vi x3), some (vi x4), some (vi (x5 + 1))]) dX8_chainsUp_130 rfl (by decide) rfl rfl ?_
        refine Z_goto (tgt := 59) dX8_chainsUp_133 (by decide) ?_
        exact P
      have G := P.1
      have h22 := G.1
      have G := G.2
      refine Z_if_eq (tgt := 122) (pc' := 91) dX8_chainsUp_88 (by decide) rfl h22 (fun c23 => ?_) (fun c23 => ?_)
      · have G := G.1 c23
        refine Z_aload_n (pc' := 123) dX8_chainsUp_122 rfl rfl ?_
        refine Z_getR (q := 61) (pc' := 126) dX8_chainsUp_123 rfl fX8_29 rfl (Or.inl dd_54) (Or.inl rr_54_8) ?_
        refine Z_iload (pc' := 128) dX8_chainsUp_126 rfl rfl ?_
        have h24 := G.1
        have G := G.2
        have h25 := G
        refine Z_iaload (pc' := 129) dX8_chainsUp_128 rfl (Or.inl dd_61) (Nat.le_of_ble_eq_true rfl) h24 h25 ?_
        exact K _ (by rw [if_pos c23])
      · have G := G.2 c23
        refine Z_aload_n (pc' := 92) dX8_chainsUp_91 rfl rfl ?_
        refine Z_getR (q := 61) (pc' := 95) dX8_chainsUp_92 rfl fX8_29 rfl (Or.inl dd_54) (Or.inl rr_54_8) ?_
        refine Z_iload (pc' := 97) dX8_chainsUp_95 rfl rfl ?_
        have h26 := G.1
        have G := G.2
        have h27 := G.1
        have G := G.2
        refine Z_iaload (pc' := 98) dX8_chainsUp_97 rfl (Or.inl dd_61) (Nat.le_of_ble_eq_true rfl) h26 h27 ?_
        refine Z_iconst (pc' := 99) dX8_chainsUp_98 rfl ?_
        refine Z_iadd (pc' := 100) dX8_chainsUp_99 rfl ?_
        refine Z_aload_n (pc' := 101) dX8_chainsUp_100 rfl rfl ?_
        refine Z_getR (q := 61) (pc' := 104) dX8_chainsUp_101 rfl fX8_29 rfl (Or.inl dd_54) (Or.inl rr_54_8) ?_
        refine Z_iload (pc' := 106) dX8_chainsUp_104 rfl rfl ?_
        have h28 := G.1
        have G := G.2
        have h29 := G.1
        have G := G.2
        refine Z_iaload (pc' := 107) dX8_chainsUp_106 rfl (Or.inl dd_61) (Nat.le_of_ble_eq_true rfl) h28 h29 ?_
        have h30 := G.1
        have G := G.2
        have h31 := G
        refine Z_icmp_le (tgt := 122) (pc' := 110) dX8_chainsUp_107 (by decide) rfl h30 h31 (fun c32 => ?_) (fun c32 => ?_)
        · refine Z_aload_n (pc' := 123) dX8_chainsUp_122 rfl rfl ?_
          refine Z_getR (q := 61) (pc' := 126) dX8_chainsUp_123 rfl fX8_29 rfl (Or.inl dd_54) (Or.inl rr_54_8) ?_
          refine Z_iload (pc' := 128) dX8_chainsUp_126 rfl rfl ?_
          refine Z_iaload (pc' := 129) dX8_chainsUp_128 rfl (Or.inl dd_61) (Nat.le_of_ble_eq_true rfl) h28 h29 ?_
          exact K _ (by rw [if_neg c23, if_pos c32])
        · refine Z_aload_n (pc' := 111) dX8_chainsUp_110 rfl rfl ?_
          refine Z_getR (q := 61) (pc' := 114) dX8_chainsUp_111 rfl fX8_29 rfl (Or.inl dd_54) (Or.inl rr_54_8) ?_
          refine Z_iload (pc' := 116) dX8_chainsUp_114 rfl rfl ?_
          refine Z_iaload (pc' := 117) dX8_chainsUp_116 rfl (Or.inl dd_61) (Nat.le_of_ble_eq_true rfl) h26 h27 ?_
          refine Z_iconst (pc' := 118) dX8_chainsUp_117 rfl ?_
          refine Z_iadd (pc' := 119) dX8_chainsUp_118 rfl ?_
          refine Z_goto (tgt := 129) dX8_chainsUp_119 (by decide) ?_
          exact K _ (by rw [if_neg c23, if_neg c32])
abbrev zX8_lays_24 (d : Nat) (Q : Int → zMem → Prop) (x1 : Int) (x2 : Int) (x3 : Int) (x4 : Int) (x5 : Int) (μ : zMem) : Prop := Z SS none mX8_lays (d + 1) 0 0 (qI Q) 24 [some (.ref 54), some (vi x1), some (vi x2), some (vi x3), some (vi x4), some (vi x5), none, none, none, none, none, none] [] μ 0 0
abbrev zX8_lays_49 (d : Nat) (Q : Int → zMem → Prop) (x1 : Int) (x2 : Int) (x3 : Int) (x4 : Int) (x5 : Int) (x6 : Int) (x7 : Int) (x8 : Int) (x9 : Int) (μ : zMem) : Prop := Z SS none mX8_lays (d + 1) 0 0 (qI Q) 49 [some (.ref 54), some (vi x1), some (vi x2), some (vi x3), some (vi x4), some (vi x5), some (vi x6), some (vi x7), some (vi x8), some (vi x9), none, none] [] μ 0 0
abbrev zX8_lays_100 (d : Nat) (Q : Int → zMem → Prop) (x1 : Int) (x2 : Int) (x3 : Int) (x4 : Int) (x5 : Int) (x6 : Int) (x7 : Int) (x10 : Int) (s0 : Int) (s1 : Int) (s2 : Int) (μ : zMem) : Prop := Z SS none mX8_lays (d + 1) 0 0 (qI Q) 100 [some (.ref 54), some (vi x1), some (vi x2), some (vi x3), some (vi x4), some (vi x5), some (vi x6), some (vi x7), none, none, some (vi x10), none] [vi s0, vi s1, vi s2] μ 0 0
theorem bX8_lays {d : Nat} {Q : Int → zMem → Prop} {μ : zMem} {x1 : Int} {x2 : Int} (P : zX8_lays_24 d Q x1 x2 0 (gI (sI (sI μ 54 7 0) 54 10 0) 55 78) 0 (sI (sI μ 54 7 0) 54 10 0)) : kX8_lays (d + 1) x1 x2 μ Q := by
  refine Cl_of rfl (Nat.le_of_ble_eq_true rfl) rfl ?_
  show Z SS none mX8_lays (d + 1) 0 0 (qI Q) 0 [some (.ref 54), some (vi x1), some (vi x2), none, none, none, none, none, none, none, none, none] [] μ 0 0
  refine Z_aload_n (pc' := 1) dX8_lays_0 rfl rfl ?_
  refine Z_iconst (pc' := 2) dX8_lays_1 rfl ?_
  refine Z_putI' (ji := 7) (pc' := 5) dX8_lays_2 rfl rfl fX8_99 (Or.inl rfl) rfl (Or.inl dd_54) ?_
  refine Z_aload_n (pc' := 6) dX8_lays_5 rfl rfl ?_
  refine Z_iconst (pc' := 7) dX8_lays_6 rfl ?_
  refine Z_putI' (ji := 10) (pc' := 10) dX8_lays_7 rfl rfl fX8_102 (Or.inl rfl) rfl (Or.inl dd_54) ?_
  refine Z_iconst (pc' := 11) dX8_lays_10 rfl ?_
  refine Z_istore_n (pc' := 12) (lo' := [some (.ref 54), some (vi x1), some (vi x2), some (vi 0), none, none, none, none, none, none, none, none]) dX8_lays_11 rfl (by decide) rfl ?_
  refine Z_aload_n (pc' := 13) dX8_lays_12 rfl rfl ?_
  refine Z_getR (q := 55) (pc' := 16) dX8_lays_13 rfl fX8_7 rfl (Or.inl dd_54) (Or.inl rr_54_0) ?_
  refine Z_bipush (pc' := 18) dX8_lays_16 rfl rfl ?_
  refine Z_iaload (pc' := 19) dX8_lays_18 rfl (Or.inl dd_55) (Nat.le_of_ble_eq_true rfl) (by decide) (by decide) ?_
  refine Z_istore (pc' := 21) (lo' := [some (.ref 54), some (vi x1), some (vi x2), some (vi 0), some (vi (gI (sI (sI μ 54 7 0) 54 10 0) 55 78)), none, none, none, none, none, none, none]) dX8_lays_19 rfl (by decide) rfl ?_
  refine Z_iconst (pc' := 22) dX8_lays_21 rfl ?_
  refine Z_istore (pc' := 24) (lo' := [some (.ref 54), some (vi x1), some (vi x2), some (vi 0), some (vi (gI (sI (sI μ 54 7 0) 54 10 0) 55 78)), some (vi 0), none, none, none, none, none, none]) dX8_lays_22 rfl (by decide) rfl ?_
  exact P
theorem bX8_lays_24 {d : Nat} {Q : Int → zMem → Prop} {μ : zMem} {x1 : Int} {x2 : Int} {x3 : Int} {x4 : Int} {x5 : Int} (P : (zIn x5) ∧ ((zIn (gI μ 55 31)) ∧ (((gI μ 55 31) ≤ x5 → (Q x3 μ)) ∧ (¬ ((gI μ 55 31) ≤ x5) → (zX8_lays_49 d Q x1 x2 x3 x4 x5 x5 0 0 1 μ))))) : zX8_lays_24 d Q x1 x2 x3 x4 x5 μ := by
  refine Z_iload (pc' := 26) dX8_lays_24 rfl rfl ?_
  refine Z_aload_n (pc' := 27) dX8_lays_26 rfl rfl ?_
  refine Z_getR (q := 55) (pc' := 30) dX8_lays_27 rfl fX8_7 rfl (Or.inl dd_54) (Or.inl rr_54_0) ?_
  refine Z_bipush (pc' := 32) dX8_lays_30 rfl rfl ?_
  refine Z_iaload (pc' := 33) dX8_lays_32 rfl (Or.inl dd_55) (Nat.le_of_ble_eq_true rfl) (by decide) (by decide) ?_
  have h1 := P.1
  have P := P.2
  have h2 := P.1
  have P := P.2
  refine Z_icmp_ge (tgt := 388) (pc' := 36) dX8_lays_33 (by decide) rfl h1 h2 (fun c3 => ?_) (fun c3 => ?_)
  · have P := P.1 c3
    refine Z_iload_n (pc' := 389) dX8_lays_388 rfl rfl ?_
    exact Z_ireturn dX8_lays_389 rfl (Nat.le_refl 0) (Nat.le_refl 0) P
  · have P := P.2 c3
    refine Z_iload (pc' := 38) dX8_lays_36 rfl rfl ?_
    refine Z_istore (pc' := 40) (lo' := [some (.ref 54), some (vi x1), some (vi x2), some (vi x3), some (vi x4), some (vi x5), some (vi x5), none, none, none, none, none]) dX8_lays_38 rfl (by decide) rfl ?_
    refine Z_iconst (pc' := 41) dX8_lays_40 rfl ?_
    refine Z_istore (pc' := 43) (lo' := [some (.ref 54), some (vi x1), some (vi x2), some (vi x3), some (vi x4), some (vi x5), some (vi x5), some (vi 0), none, none, none, none]) dX8_lays_41 rfl (by decide) rfl ?_
    refine Z_iconst (pc' := 44) dX8_lays_43 rfl ?_
    refine Z_istore (pc' := 46) (lo' := [some (.ref 54), some (vi x1), some (vi x2), some (vi x3), some (vi x4), some (vi x5), some (vi x5), some (vi 0), some (vi 0), none, none, none]) dX8_lays_44 rfl (by decide) rfl ?_
    refine Z_iconst (pc' := 47) dX8_lays_46 rfl ?_
    refine Z_istore (pc' := 49) (lo' := [some (.ref 54), some (vi x1), some (vi x2), some (vi x3), some (vi x4), some (vi x5), some (vi x5), some (vi 0), some (vi 0), some (vi 1), none, none]) dX8_lays_47 rfl (by decide) rfl ?_
    exact P
theorem bX8_lays_49 {d : Nat} {Q : Int → zMem → Prop} {μ : zMem} {x1 : Int} {x2 : Int} {x3 : Int} {x4 : Int} {x5 : Int} {x6 : Int} {x7 : Int} {x8 : Int} {x9 : Int} (P : (zIn x9) ∧ ((x9 = 0 → ((zIn (x4 + x7)) ∧ (((x4 + x7) ≤ 36 → ((0 ≤ ((36 * (x7 - 1)) + x4)) ∧ ((((36 * (x7 - 1)) + x4) < 1296) ∧ ((zIn ((gI μ 56 ((36 * (x7 - 1)) + x4)) - x8)) ∧ ((0 ≤ ((gI μ 56 ((36 * (x7 - 1)) + x4)) - x8) → ((0 ≤ (7 * (gI μ 54 7))) ∧ (((7 * (gI μ 54 7)) < 98) ∧ ((0 ≤ ((7 * (gI μ 54 7)) + 1)) ∧ ((((7 * (gI μ 54 7)) + 1) < 98) ∧ ((0 ≤ ((7 * (gI μ 54 7)) + 2)) ∧ ((((7 * (gI μ 54 7)) + 2) < 98) ∧ ((0 ≤ ((7 * (gI μ 54 7)) + 3)) ∧ ((((7 * (gI μ 54 7)) + 3) < 98) ∧ ((0 ≤ ((7 * (gI μ 54 7)) + 4)) ∧ ((((7 * (gI μ 54 7)) + 4) < 98) ∧ ((0 ≤ ((7 * (gI μ 54 7)) + 5)) ∧ ((((7 * (gI μ 54 7)) + 5) < 98) ∧ ((0 ≤ ((7 * (gI μ 54 7)) + 6)) ∧ ((((7 * (gI μ 54 7)) + 6) < 98) ∧ (kX8_places d x1 (gI (sI (sI (sI (sI (sI (sI (sI μ 59 (7 * (gI μ 54 7)) x6) 59 ((7 * (gI μ 54 7)) + 1) (x5 - x6)) 59 ((7 * (gI μ 54 7)) + 2) x4) 59 ((7 * (gI μ 54 7)) + 3) x7) 59 ((7 * (gI μ 54 7)) + 4) x8) 59 ((7 * (gI μ 54 7)) + 5) (gI (sI (sI (sI (sI (sI μ 59 (7 * (gI μ 54 7)) x6) 59 ((7 * (gI μ 54 7)) + 1) (x5 - x6)) 59 ((7 * (gI μ 54 7)) + 2) x4) 59 ((7 * (gI μ 54 7)) + 3) x7) 59 ((7 * (gI μ 54 7)) + 4) x8) 57 ((36 * (x7 - 1)) + x4))) 59 ((7 * (gI μ 54 7)) + 6) ((gI μ 56 ((36 * (x7 - 1)) + x4)) - x8)) 54 7) (sI (sI (sI (sI (sI (sI (sI μ 59 (7 * (gI μ 54 7)) x6) 59 ((7 * (gI μ 54 7)) + 1) (x5 - x6)) 59 ((7 * (gI μ 54 7)) + 2) x4) 59 ((7 * (gI μ 54 7)) + 3) x7) 59 ((7 * (gI μ 54 7)) + 4) x8) 59 ((7 * (gI μ 54 7)) + 5) (gI (sI (sI (sI (sI (sI μ 59 (7 * (gI μ 54 7)) x6) 59 ((7 * (gI μ 54 7)) + 1) (x5 - x6)) 59 ((7 * (gI μ 54 7)) + 2) x4) 59 ((7 * (gI μ 54 7)) + 3) x7) 59 ((7 * (gI μ 54 7)) + 4) x8) 57 ((36 * (x7 - 1)) + x4))) 59 ((7 * (gI μ 54 7)) + 6) ((gI μ 56 ((36 * (x7 - 1)) + x4)) - x8)) (fun μ23 : zMem => kX8_chainsUp d x6 x5 μ23 (fun μ24 : zMem => (zIn (gI μ24 54 10)) ∧ ((zIn (gI μ24 55 81)) ∧ (((gI μ24 54 10) ≤ (gI μ24 55 81) → (zX8_lays_24 d Q x1 x2 (x3 + (((gI μ 56 ((36 * (x7 - 1)) + x4)) - x8) * ((gI μ 56 ((36 * (x7 - 1)) + x4)) - x8))) (x4 + (x7 + (gI (sI μ24 54 7 ((gI μ24 54 7) + 1)) 55 79))) x5 (sI μ24 54 7 ((gI μ24 54 7) + 1)))) ∧ (¬ ((gI μ24 54 10) ≤ (gI μ24 55 81)) → (Q (-1) μ24)))))))))))))))))))))) ∧ (¬ (0 ≤ ((gI μ 56 ((36 * (x7 - 1)) + x4)) - x8)) → (Q (-1) μ))))))) ∧ (¬ ((x4 + x7) ≤ 36) → (Q (-1) μ))))) ∧ (¬ (x9 = 0) → (kX8_sizeOf d x5 x1 μ (fun (r29 : Int) (μ28 : zMem) => kX8_of d x5 0 μ28 (fun (r31 : Int) (μ30 : zMem) => (zIn x5) ∧ ((zIn x6) ∧ ((x5 ≤ x6 → (zX8_lays_100 d Q x1 x2 x3 x4 x5 x6 x7 r29 0 (r31 * r29) x8 μ30)) ∧ (¬ (x5 ≤ x6) → (kX8_sizeOf d (x5 - 1) x1 μ30 (fun (r36 : Int) (μ35 : zMem) => kX8_least d r29 r36 μ35 (fun (r38 : Int) (μ37 : zMem) => zX8_lays_100 d Q x1 x2 x3 x4 x5 x6 x7 r29 r38 (r31 * r29) x8 μ37)))))))))))) : zX8_lays_49 d Q x1 x2 x3 x4 x5 x6 x7 x8 x9 μ := by
  refine Z_iload (pc' := 51) dX8_lays_49 rfl rfl ?_
  have h1 := P.1
  have P := P.2
  refine Z_if_eq (tgt := 179) (pc' := 54) dX8_lays_51 (by decide) rfl h1 (fun c2 => ?_) (fun c2 => ?_)
  · have P := P.1 c2
    refine Z_iload (pc' := 181) dX8_lays_179 rfl rfl ?_
    refine Z_iload (pc' := 183) dX8_lays_181 rfl rfl ?_
    refine Z_iadd (pc' := 184) dX8_lays_183 rfl ?_
    refine Z_bipush (pc' := 186) dX8_lays_184 rfl rfl ?_
    have h3 := P.1
    have P := P.2
    refine Z_icmp_le (tgt := 191) (pc' := 189) dX8_lays_186 (by decide) rfl h3 (z_lit rfl) (fun c4 => ?_) (fun c4 => ?_)
    · have P := P.1 c4
      refine Z_aload_n (pc' := 192) dX8_lays_191 rfl rfl ?_
      refine Z_getR (q := 56) (pc' := 195) dX8_lays_192 rfl fX8_13 rfl (Or.inl dd_54) (Or.inl rr_54_2) ?_
      refine Z_bipush (pc' := 197) dX8_lays_195 rfl rfl ?_
      refine Z_iload (pc' := 199) dX8_lays_197 rfl rfl ?_
      refine Z_iconst (pc' := 200) dX8_lays_199 rfl ?_
      refine Z_isub (pc' := 201) dX8_lays_200 rfl ?_
      refine Z_imul (pc' := 202) dX8_lays_201 rfl ?_
      refine Z_iload (pc' := 204) dX8_lays_202 rfl rfl ?_
      refine Z_iadd (pc' := 205) dX8_lays_204 rfl ?_
      have h5 := P.1
      have P := P.2
      have h6 := P.1
      have P := P.2
      refine Z_iaload (pc' := 206) dX8_lays_205 rfl (Or.inl dd_56) (Nat.le_of_ble_eq_true rfl) h5 h6 ?_
      refine Z_iload (pc' := 208) dX8_lays_206 rfl rfl ?_
      refine Z_isub (pc' := 209) dX8_lays_208 rfl ?_
      refine Z_istore (pc' := 211) (lo' := [some (.ref 54), some (vi x1), some (vi x2), some (vi x3), some (vi x4), some (vi x5), some (vi x6), some (vi x7), some (vi x8), some (vi x9), some (vi ((gI μ 56 ((36 * (x7 - 1)) + x4)) - x8)), none]) dX8_lays_209 rfl (by decide) rfl ?_
      refine Z_iload (pc' := 213) dX8_lays_211 rfl rfl ?_
      have h7 := P.1
      have P := P.2
      refine Z_if_ge (tgt := 218) (pc' := 216) dX8_lays_213 (by decide) rfl h7 (fun c8 => ?_) (fun c8 => ?_)
      · have P := P.1 c8
        refine Z_iload_n (pc' := 219) dX8_lays_218 rfl rfl ?_
        refine Z_iload (pc' := 221) dX8_lays_219 rfl rfl ?_
        refine Z_iload (pc' := 223) dX8_lays_221 rfl rfl ?_
        refine Z_imul (pc' := 224) dX8_lays_223 rfl ?_
        refine Z_iadd (pc' := 225) dX8_lays_224 rfl ?_
        refine Z_istore_n (pc' := 226) (lo' := [some (.ref 54), some (vi x1), some (vi x2), some (vi (x3 + (((gI μ 56 ((36 * (x7 - 1)) + x4)) - x8) * ((gI μ 56 ((36 * (x7 - 1)) + x4)) - x8)))), some (vi x4), some (vi x5), some (vi x6), some (vi x7), some (vi x8), some (vi x9), some (vi ((gI μ 56 ((36 * (x7 - 1)) + x4)) - x8)), none]) dX8_lays_225 rfl (by decide) rfl ?_
        refine Z_bipush (pc' := 228) dX8_lays_226 rfl rfl ?_
        refine Z_aload_n (pc' := 229) dX8_lays_228 rfl rfl ?_
        refine Z_getI' (ji := 7) (pc' := 232) dX8_lays_229 rfl rfl fX8_99 rfl (Or.inl dd_54) ?_
        refine Z_imul (pc' := 233) dX8_lays_232 rfl ?_
        refine Z_istore (pc' := 235) (lo' := [some (.ref 54), some (vi x1), some (vi x2), some (vi (x3 + (((gI μ 56 ((36 * (x7 - 1)) + x4)) - x8) * ((gI μ 56 ((36 * (x7 - 1)) + x4)) - x8)))), some (vi x4), some (vi x5), some (vi x6), some (vi x7), some (vi x8), some (vi x9), some (vi ((gI μ 56 ((36 * (x7 - 1)) + x4)) - x8)), some (vi (7 * (gI μ 54 7)))]) dX8_lays_233 rfl (by decide) rfl ?_
        refine Z_aload_n (pc' := 236) dX8_lays_235 rfl rfl ?_
        refine Z_getR (q := 59) (pc' := 239) dX8_lays_236 rfl fX8_23 rfl (Or.inl dd_54) (Or.inl rr_54_5) ?_
        refine Z_iload (pc' := 241) dX8_lays_239 rfl rfl ?_
        refine Z_iload (pc' := 243) dX8_lays_241 rfl rfl ?_
        have h9 := P.1
        have P := P.2
        have h10 := P.1
        have P := P.2
        refine Z_iastore (pc' := 244) dX8_lays_243 rfl (Or.inl dd_59) (Nat.le_of_ble_eq_true rfl) h9 h10 ?_
        refine Z_aload_n (pc' := 245) dX8_lays_244 rfl rfl ?_
        refine Z_getR (q := 59) (pc' := 248) dX8_lays_245 rfl fX8_23 rfl (Or.inl dd_54) (Or.inl rr_54_5) ?_
        refine Z_iload (pc' := 250) dX8_lays_248 rfl rfl ?_
        refine Z_iconst (pc' := 251) dX8_lays_250 rfl ?_
        refine Z_iadd (pc' := 252) dX8_lays_251 rfl ?_
        refine Z_iload (pc' := 254) dX8_lays_252 rfl rfl ?_
        refine Z_iload (pc' := 256) dX8_lays_254 rfl rfl ?_
        refine Z_isub (pc' := 257) dX8_lays_256 rfl ?_
        have h11 := P.1
        have P := P.2
        have h12 := P.1
        have P := P.2
        refine Z_iastore (pc' := 258) dX8_lays_257 rfl (Or.inl dd_59) (Nat.le_of_ble_eq_true rfl) h11 h12 ?_
        refine Z_aload_n (pc' := 259) dX8_lays_258 rfl rfl ?_
        refine Z_getR (q := 59) (pc' := 262) dX8_lays_259 rfl fX8_23 rfl (Or.inl dd_54) (Or.inl rr_54_5) ?_
        refine Z_iload (pc' := 264) dX8_lays_262 rfl rfl ?_
        refine Z_iconst (pc' := 265) dX8_lays_264 rfl ?_
        refine Z_iadd (pc' := 266) dX8_lays_265 rfl ?_
        refine Z_iload (pc' := 268) dX8_lays_266 rfl rfl ?_
        have h13 := P.1
        have P := P.2
        have h14 := P.1
        have P := P.2
        refine Z_iastore (pc' := 269) dX8_lays_268 rfl (Or.inl dd_59) (Nat.le_of_ble_eq_true rfl) h13 h14 ?_
        refine Z_aload_n (pc' := 270) dX8_lays_269 rfl rfl ?_
        refine Z_getR (q := 59) (pc' := 273) dX8_lays_270 rfl fX8_23 rfl (Or.inl dd_54) (Or.inl rr_54_5) ?_
        refine Z_iload (pc' := 275) dX8_lays_273 rfl rfl ?_
        refine Z_iconst (pc' := 276) dX8_lays_275 rfl ?_
        refine Z_iadd (pc' := 277) dX8_lays_276 rfl ?_
        refine Z_iload (pc' := 279) dX8_lays_277 rfl rfl ?_
        have h15 := P.1
        have P := P.2
        have h16 := P.1
        have P := P.2
        refine Z_iastore (pc' := 280) dX8_lays_279 rfl (Or.inl dd_59) (Nat.le_of_ble_eq_true rfl) h15 h16 ?_
        refine Z_aload_n (pc' := 281) dX8_lays_280 rfl rfl ?_
        refine Z_getR (q := 59) (pc' := 284) dX8_lays_281 rfl fX8_23 rfl (Or.inl dd_54) (Or.inl rr_54_5) ?_
        refine Z_iload (pc' := 286) dX8_lays_284 rfl rfl ?_
        refine Z_iconst (pc' := 287) dX8_lays_286 rfl ?_
        refine Z_iadd (pc' := 288) dX8_lays_287 rfl ?_
        refine Z_iload (pc' := 290) dX8_lays_288 rfl rfl ?_
        have h17 := P.1
        have P := P.2
        have h18 := P.1
        have P := P.2
        refine Z_iastore (pc' := 291) dX8_lays_290 rfl (Or.inl dd_59) (Nat.le_of_ble_eq_true rfl) h17 h18 ?_
        refine Z_aload_n (pc' := 292) dX8_lays_291 rfl rfl ?_
        refine Z_getR (q := 59) (pc' := 295) dX8_lays_292 rfl fX8_23 rfl (Or.inl dd_54) (Or.inl rr_54_5) ?_
        refine Z_iload (pc' := 297) dX8_lays_295 rfl rfl ?_
        refine Z_iconst (pc' := 298) dX8_lays_297 rfl ?_
        refine Z_iadd (pc' := 299) dX8_lays_298 rfl ?_
        refine Z_aload_n (pc' := 300) dX8_lays_299 rfl rfl ?_
        refine Z_getR (q := 57) (pc' := 303) dX8_lays_300 rfl fX8_16 rfl (Or.inl dd_54) (Or.inl rr_54_3) ?_
        refine Z_bipush (pc' := 305) dX8_lays_303 rfl rfl ?_
        refine Z_iload (pc' := 307) dX8_lays_305 rfl rfl ?_
        refine Z_iconst (pc' := 308) dX8_lays_307 rfl ?_
        refine Z_isub (pc' := 309) dX8_lays_308 rfl ?_
        refine Z_imul (pc' := 310) dX8_lays_309 rfl ?_
        refine Z_iload (pc' := 312) dX8_lays_310 rfl rfl ?_
        refine Z_iadd (pc' := 313) dX8_lays_312 rfl ?_
        refine Z_iaload (pc' := 314) dX8_lays_313 rfl (Or.inl dd_57) (Nat.le_of_ble_eq_true rfl) h5 h6 ?_
        have h19 := P.1
        have P := P.2
        have h20 := P.1
        have P := P.2
        refine Z_iastore (pc' := 315) dX8_lays_314 rfl (Or.inl dd_59) (Nat.le_of_ble_eq_true rfl) h19 h20 ?_
        refine Z_aload_n (pc' := 316) dX8_lays_315 rfl rfl ?_
        refine Z_getR (q := 59) (pc' := 319) dX8_lays_316 rfl fX8_23 rfl (Or.inl dd_54) (Or.inl rr_54_5) ?_
        refine Z_iload (pc' := 321) dX8_lays_319 rfl rfl ?_
        refine Z_bipush (pc' := 323) dX8_lays_321 rfl rfl ?_
        refine Z_iadd (pc' := 324) dX8_lays_323 rfl ?_
        refine Z_iload (pc' := 326) dX8_lays_324 rfl rfl ?_
        have h21 := P.1
        have P := P.2
        have h22 := P.1
        have P := P.2
        refine Z_iastore (pc' := 327) dX8_lays_326 rfl (Or.inl dd_59) (Nat.le_of_ble_eq_true rfl) h21 h22 ?_
        refine Z_aload_n (pc' := 328) dX8_lays_327 rfl rfl ?_
        refine Z_iload_n (pc' := 329) dX8_lays_328 rfl rfl ?_
        refine Z_aload_n (pc' := 330) dX8_lays_329 rfl rfl ?_
        refine Z_getI' (ji := 7) (pc' := 333) dX8_lays_330 rfl rfl fX8_99 rfl (Or.inl dd_54) ?_
        refine Z_callV0 (M' := mX8_places) (pc' := 336) (st := []) [vi x1, vi (gI (sI (sI (sI (sI (sI (sI (sI μ 59 (7 * (gI μ 54 7)) x6) 59 ((7 * (gI μ 54 7)) + 1) (x5 - x6)) 59 ((7 * (gI μ 54 7)) + 2) x4) 59 ((7 * (gI μ 54 7)) + 3) x7) 59 ((7 * (gI μ 54 7)) + 4) x8) 59 ((7 * (gI μ 54 7)) + 5) (gI (sI (sI (sI (sI (sI μ 59 (7 * (gI μ 54 7)) x6) 59 ((7 * (gI μ 54 7)) + 1) (x5 - x6)) 59 ((7 * (gI μ 54 7)) + 2) x4) 59 ((7 * (gI μ 54 7)) + 3) x7) 59 ((7 * (gI μ 54 7)) + 4) x8) 57 ((36 * (x7 - 1)) + x4))) 59 ((7 * (gI μ 54 7)) + 6) ((gI μ 56 ((36 * (x7 - 1)) + x4)) - x8)) 54 7)] dX8_lays_333 rfl vX8_places lX8_114 (Or.inl dd_54) rfl (Nat.le_of_ble_eq_true rfl) (Nat.le_refl 0) (Nat.le_refl 0) ?_
        refine Cl_mono P ?_
        rintro _ μ23 ⟨rfl, P⟩
        show Z SS none mX8_lays (d + 1) 0 0 (qI Q) 336 [some (.ref 54), some (vi x1), some (vi x2), some (vi (x3 + (((gI μ 56 ((36 * (x7 - 1)) + x4)) - x8) * ((gI μ 56 ((36 * (x7 - 1)) + x4)) - x8)))), some (vi x4), some (vi x5), some (vi x6), some (vi x7), some (vi x8), some (vi x9), some (vi ((gI μ 56 ((36 * (x7 - 1)) + x4)) - x8)), some (vi (7 * (gI μ 54 7)))] [] μ23 0 0
        refine Z_aload_n (pc' := 337) dX8_lays_336 rfl rfl ?_
        refine Z_iload (pc' := 339) dX8_lays_337 rfl rfl ?_
        refine Z_iload (pc' := 341) dX8_lays_339 rfl rfl ?_
        refine Z_callV0 (M' := mX8_chainsUp) (pc' := 344) (st := []) [vi x6, vi x5] dX8_lays_341 rfl vX8_chainsUp lX8_117 (Or.inl dd_54) rfl (Nat.le_of_ble_eq_true rfl) (Nat.le_refl 0) (Nat.le_refl 0) ?_
        refine Cl_mono P ?_
        rintro _ μ24 ⟨rfl, P⟩
        show Z SS none mX8_lays (d + 1) 0 0 (qI Q) 344 [some (.ref 54), some (vi x1), some (vi x2), some (vi (x3 + (((gI μ 56 ((36 * (x7 - 1)) + x4)) - x8) * ((gI μ 56 ((36 * (x7 - 1)) + x4)) - x8)))), some (vi x4), some (vi x5), some (vi x6), some (vi x7), some (vi x8), some (vi x9), some (vi ((gI μ 56 ((36 * (x7 - 1)) + x4)) - x8)), some (vi (7 * (gI μ 54 7)))] [] μ24 0 0
        refine Z_aload_n (pc' := 345) dX8_lays_344 rfl rfl ?_
        refine Z_getI' (ji := 10) (pc' := 348) dX8_lays_345 rfl rfl fX8_102 rfl (Or.inl dd_54) ?_
        refine Z_aload_n (pc' := 349) dX8_lays_348 rfl rfl ?_
        refine Z_getR (q := 55) (pc' := 352) dX8_lays_349 rfl fX8_7 rfl (Or.inl dd_54) (Or.inl rr_54_0) ?_
        refine Z_bipush (pc' := 354) dX8_lays_352 rfl rfl ?_
        refine Z_iaload (pc' := 355) dX8_lays_354 rfl (Or.inl dd_55) (Nat.le_of_ble_eq_true rfl) (by decide) (by decide) ?_
        have h25 := P.1
        have P := P.2
        have h26 := P.1
        have P := P.2
        refine Z_icmp_le (tgt := 360) (pc' := 358) dX8_lays_355 (by decide) rfl h25 h26 (fun c27 => ?_) (fun c27 => ?_)
        · have P := P.1 c27
          refine Z_aload_n (pc' := 361) dX8_lays_360 rfl rfl ?_
          refine Z_dup (pc' := 362) dX8_lays_361 rfl rfl ?_
          refine Z_getI' (ji := 7) (pc' := 365) dX8_lays_362 rfl rfl fX8_99 rfl (Or.inl dd_54) ?_
          refine Z_iconst (pc' := 366) dX8_lays_365 rfl ?_
          refine Z_iadd (pc' := 367) dX8_lays_366 rfl ?_
          refine Z_putI' (ji := 7) (pc' := 370) dX8_lays_367 rfl rfl fX8_99 (Or.inl rfl) rfl (Or.inl dd_54) ?_
          refine Z_iload (pc' := 372) dX8_lays_370 rfl rfl ?_
          refine Z_iload (pc' := 374) dX8_lays_372 rfl rfl ?_
          refine Z_aload_n (pc' := 375) dX8_lays_374 rfl rfl ?_
          refine Z_getR (q := 55) (pc' := 378) dX8_lays_375 rfl fX8_7 rfl (Or.inl dd_54) (Or.inl rr_54_0) ?_
          refine Z_bipush (pc' := 380) dX8_lays_378 rfl rfl ?_
          refine Z_iaload (pc' := 381) dX8_lays_380 rfl (Or.inl dd_55) (Nat.le_of_ble_eq_true rfl) (by decide) (by decide) ?_
          refine Z_iadd (pc' := 382) dX8_lays_381 rfl ?_
          refine Z_iadd (pc' := 383) dX8_lays_382 rfl ?_
          refine Z_istore (pc' := 385) (lo' := [some (.ref 54), some (vi x1), some (vi x2), some (vi (x3 + (((gI μ 56 ((36 * (x7 - 1)) + x4)) - x8) * ((gI μ 56 ((36 * (x7 - 1)) + x4)) - x8)))), some (vi (x4 + (x7 + (gI (sI μ24 54 7 ((gI μ24 54 7) + 1)) 55 79)))), some (vi x5), some (vi x6), some (vi x7), some (vi x8), some (vi x9), some (vi ((gI μ 56 ((36 * (x7 - 1)) + x4)) - x8)), some (vi (7 * (gI μ 54 7)))]) dX8_lays_383 rfl (by decide) rfl ?_
          refine Z_goto (tgt := 24) dX8_lays_385 (by decide) ?_
          refine Z_wk [true, true, true, true, true, true, false, false, false, false, false, false] rfl ?_
          exact P
        · have P := P.2 c27
          refine Z_iconst (pc' := 359) dX8_lays_358 rfl ?_
          exact Z_ireturn dX8_lays_359 rfl (Nat.le_refl 0) (Nat.le_refl 0) P
      · have P := P.2 c8
        refine Z_iconst (pc' := 217) dX8_lays_216 rfl ?_
        exact Z_ireturn dX8_lays_217 rfl (Nat.le_refl 0) (Nat.le_refl 0) P
    · have P := P.2 c4
      refine Z_iconst (pc' := 190) dX8_lays_189 rfl ?_
      exact Z_ireturn dX8_lays_190 rfl (Nat.le_refl 0) (Nat.le_refl 0) P
  · have P := P.2 c2
    refine Z_aload_n (pc' := 55) dX8_lays_54 rfl rfl ?_
    refine Z_iload (pc' := 57) dX8_lays_55 rfl rfl ?_
    refine Z_iload_n (pc' := 58) dX8_lays_57 rfl rfl ?_
    refine Z_callV0 (M' := mX8_sizeOf) (pc' := 61) (st := []) [vi x5, vi x1] dX8_lays_58 rfl vX8_sizeOf lX8_96 (Or.inl dd_54) rfl (Nat.le_of_ble_eq_true rfl) (Nat.le_refl 0) (Nat.le_refl 0) ?_
    refine Cl_mono P ?_
    rintro _ μ28 ⟨r29, rfl, P⟩
    show Z SS none mX8_lays (d + 1) 0 0 (qI Q) 61 [some (.ref 54), some (vi x1), some (vi x2), some (vi x3), some (vi x4), some (vi x5), some (vi x6), some (vi x7), some (vi x8), some (vi x9), none, none] [vi r29] μ28 0 0
    refine Z_istore (pc' := 63) (lo' := [some (.ref 54), some (vi x1), some (vi x2), some (vi x3), some (vi x4), some (vi x5), some (vi x6), some (vi x7), some (vi x8), some (vi x9), some (vi r29), none]) dX8_lays_61 rfl (by decide) rfl ?_
    refine Z_iload (pc' := 65) dX8_lays_63 rfl rfl ?_
    refine Z_aload_n (pc' := 66) dX8_lays_65 rfl rfl ?_
    refine Z_iload (pc' := 68) dX8_lays_66 rfl rfl ?_
    refine Z_iconst (pc' := 69) dX8_lays_68 rfl ?_
    refine Z_callV0 (M' := mX8_of) (pc' := 72) (st := [vi x8]) [vi x5, vi 0] dX8_lays_69 rfl vX8_of lX8_93 (Or.inl dd_54) rfl (Nat.le_of_ble_eq_true rfl) (Nat.le_refl 0) (Nat.le_refl 0) ?_
    refine Cl_mono P ?_
    rintro _ μ30 ⟨r31, rfl, P⟩
    show Z SS none mX8_lays (d + 1) 0 0 (qI Q) 72 [some (.ref 54), some (vi x1), some (vi x2), some (vi x3), some (vi x4), some (vi x5), some (vi x6), some (vi x7), some (vi x8), some (vi x9), some (vi r29), none] [vi r31, vi x8] μ30 0 0
    refine Z_iload (pc' := 74) dX8_lays_72 rfl rfl ?_
    refine Z_imul (pc' := 75) dX8_lays_74 rfl ?_
    refine Z_iload (pc' := 77) dX8_lays_75 rfl rfl ?_
    refine Z_iload (pc' := 79) dX8_lays_77 rfl rfl ?_
    have h32 := P.1
    have P := P.2
    have h33 := P.1
    have P := P.2
    refine Z_icmp_le (tgt := 99) (pc' := 82) dX8_lays_79 (by decide) rfl h32 h33 (fun c34 => ?_) (fun c34 => ?_)
    · have P := P.1 c34
      refine Z_iconst (pc' := 100) dX8_lays_99 rfl ?_
      refine Z_wk [true, true, true, true, true, true, true, true, false, false, true, true] rfl ?_
      exact P
    · have P := P.2 c34
      refine Z_iload (pc' := 84) dX8_lays_82 rfl rfl ?_
      refine Z_aload_n (pc' := 85) dX8_lays_84 rfl rfl ?_
      refine Z_iload (pc' := 87) dX8_lays_85 rfl rfl ?_
      refine Z_iconst (pc' := 88) dX8_lays_87 rfl ?_
      refine Z_isub (pc' := 89) dX8_lays_88 rfl ?_
      refine Z_iload_n (pc' := 90) dX8_lays_89 rfl rfl ?_
      refine Z_callV0 (M' := mX8_sizeOf) (pc' := 93) (st := [vi r29, vi (r31 * r29), vi x8]) [vi (x5 - 1), vi x1] dX8_lays_90 rfl vX8_sizeOf lX8_96 (Or.inl dd_54) rfl (Nat.le_of_ble_eq_true rfl) (Nat.le_refl 0) (Nat.le_refl 0) ?_
      refine Cl_mono P ?_
      rintro _ μ35 ⟨r36, rfl, P⟩
      show Z SS none mX8_lays (d + 1) 0 0 (qI Q) 93 [some (.ref 54), some (vi x1), some (vi x2), some (vi x3), some (vi x4), some (vi x5), some (vi x6), some (vi x7), some (vi x8), some (vi x9), some (vi r29), none] [vi r36, vi r29, vi (r31 * r29), vi x8] μ35 0 0
      refine Z_callS0 (M' := mX8_least) (pc' := 96) (st := [vi (r31 * r29), vi x8]) [vi r29, vi r36] dX8_lays_93 rfl sX8_least lX8_105 rfl (Nat.le_of_ble_eq_true rfl) (Nat.le_refl 0) (Nat.le_refl 0) ?_
      refine Cl_mono P ?_
      rintro _ μ37 ⟨r38, rfl, P⟩
      show Z SS none mX8_lays (d + 1) 0 0 (qI Q) 96 [some (.ref 54), some (vi x1), some (vi x2), some (vi x3), some (vi x4), some (vi x5), some (vi x6), some (vi x7), some (vi x8), some (vi x9), some (vi r29), none] [vi r38, vi (r31 * r29), vi x8] μ37 0 0
      refine Z_goto (tgt := 100) dX8_lays_96 (by decide) ?_
      refine Z_wk [true, true, true, true, true, true, true, true, false, false, true, true] rfl ?_
      exact P
theorem bX8_lays_100 {d : Nat} {Q : Int → zMem → Prop} {μ : zMem} {x1 : Int} {x2 : Int} {x3 : Int} {x4 : Int} {x5 : Int} {x6 : Int} {x7 : Int} {x10 : Int} {s0 : Int} {s1 : Int} {s2 : Int} (P : ((zIn x10) ∧ ((zIn x7))) ∧ ((zIn (x5 + 1)) ∧ ((zIn (gI μ 55 31)) ∧ (((gI μ 55 31) ≤ (x5 + 1) → (zX8_lays_49 d Q x1 x2 x3 x4 (x5 + 1) x6 (if x10 ≤ x7 then x7 else x10) (s2 + (s1 + s0)) 0 (sI μ 54 11 (x5 + 1)))) ∧ (¬ ((gI μ 55 31) ≤ (x5 + 1)) → (kX8_breaks d x2 (x5 + 1) μ (fun (r10 : Int) (μ9 : zMem) => ((zIn r10)) ∧ ((((if r10 = 0 then 1 else 0) : Int) = 0 → (zX8_lays_49 d Q x1 x2 x3 x4 (x5 + 1) x6 (if x10 ≤ x7 then x7 else x10) (s2 + (s1 + s0)) (if r10 = 0 then 1 else 0) (sI μ9 54 11 (x5 + 1)))) ∧ (¬ (((if r10 = 0 then 1 else 0) : Int) = 0) → (kX8_of d (x5 + 1) 2 (sI μ9 54 11 (x5 + 1)) (fun (r16 : Int) (μ15 : zMem) => (zIn r16) ∧ ((r16 = 1 → (Q (-1) μ15)) ∧ (¬ (r16 = 1) → (zX8_lays_49 d Q x1 x2 x3 x4 (x5 + 1) x6 (if x10 ≤ x7 then x7 else x10) (s2 + (s1 + s0)) (if r10 = 0 then 1 else 0) μ15)))))))))))))) : zX8_lays_100 d Q x1 x2 x3 x4 x5 x6 x7 x10 s0 s1 s2 μ := by
  refine Z_iadd (pc' := 101) dX8_lays_100 rfl ?_
  refine Z_iadd (pc' := 102) dX8_lays_101 rfl ?_
  refine Z_istore (pc' := 104) (lo' := [some (.ref 54), some (vi x1), some (vi x2), some (vi x3), some (vi x4), some (vi x5), some (vi x6), some (vi x7), some (vi (s2 + (s1 + s0))), none, some (vi x10), none]) dX8_lays_102 rfl (by decide) rfl ?_
  refine Z_iload (pc' := 106) dX8_lays_104 rfl rfl ?_
  refine Z_iload (pc' := 108) dX8_lays_106 rfl rfl ?_
  have K : ∀ t4 : Int, t4 = (if x10 ≤ x7 then x7 else x10) → Z SS none mX8_lays (d + 1) 0 0 (qI Q) 118 [some (.ref 54), some (vi x1), some (vi x2), some (vi x3), some (vi x4), some (vi x5), some (vi x6), some (vi x7), some (vi (s2 + (s1 + s0))), none, some (vi x10), none] [vi t4] μ 0 0 := by
    rintro _ rfl
    have P := P.2
    refine Z_istore (pc' := 120) (lo' := [some (.ref 54), some (vi x1), some (vi x2), some (vi x3), some (vi x4), some (vi x5), some (vi x6), some (vi (if x10 ≤ x7 then x7 else x10)), some (vi (s2 + (s1 + s0))), none, some (vi x10), none]) dX8_lays_118 rfl (by decide) rfl ?_
    refine Z_iinc (pc' := 123) (lo' := [some (.ref 54), some (vi x1), some (vi x2), some (vi x3), some (vi x4), some (vi (x5 + 1)), some (vi x6), some (vi (if x10 ≤ x7 then x7 else x10)), some (vi (s2 + (s1 + s0))), none, some (vi x10), none]) dX8_lays_120 rfl (by decide) rfl rfl ?_
    refine Z_iload (pc' := 125) dX8_lays_123 rfl rfl ?_
    refine Z_aload_n (pc' := 126) dX8_lays_125 rfl rfl ?_
    refine Z_getR (q := 55) (pc' := 129) dX8_lays_126 rfl fX8_7 rfl (Or.inl dd_54) (Or.inl rr_54_0) ?_
    refine Z_bipush (pc' := 131) dX8_lays_129 rfl rfl ?_
    refine Z_iaload (pc' := 132) dX8_lays_131 rfl (Or.inl dd_55) (Nat.le_of_ble_eq_true rfl) (by decide) (by decide) ?_
    have h5 := P.1
    have P := P.2
    have h6 := P.1
    have P := P.2
    refine Z_icmp_ge (tgt := 149) (pc' := 135) dX8_lays_132 (by decide) rfl h5 h6 (fun c7 => ?_) (fun c7 => ?_)
    · have P := P.1 c7
      refine Z_iconst (pc' := 150) dX8_lays_149 rfl ?_
      refine Z_istore (pc' := 152) (lo' := [some (.ref 54), some (vi x1), some (vi x2), some (vi x3), some (vi x4), some (vi (x5 + 1)), some (vi x6), some (vi (if x10 ≤ x7 then x7 else x10)), some (vi (s2 + (s1 + s0))), some (vi 0), some (vi x10), none]) dX8_lays_150 rfl (by decide) rfl ?_
      refine Z_aload_n (pc' := 153) dX8_lays_152 rfl rfl ?_
      refine Z_iload (pc' := 155) dX8_lays_153 rfl rfl ?_
      refine Z_putI' (ji := 11) (pc' := 158) dX8_lays_155 rfl rfl fX8_111 (Or.inl rfl) rfl (Or.inl dd_54) ?_
      refine Z_iload (pc' := 160) dX8_lays_158 rfl rfl ?_
      refine Z_if_eq (tgt := 176) (pc' := 163) dX8_lays_160 (by decide) rfl (z_lit rfl) (fun c8 => ?_) (fun c8 => ?_)
      · refine Z_goto (tgt := 49) dX8_lays_176 (by decide) ?_
        refine Z_wk [true, true, true, true, true, true, true, true, true, true, false, true] rfl ?_
        exact P
      · exact absurd c8 (by decide)
    · have P := P.2 c7
      refine Z_aload_n (pc' := 136) dX8_lays_135 rfl rfl ?_
      refine Z_iload_n (pc' := 137) dX8_lays_136 rfl rfl ?_
      refine Z_iload (pc' := 139) dX8_lays_137 rfl rfl ?_
      refine Z_callV0 (M' := mX8_breaks) (pc' := 142) (st := []) [vi x2, vi (x5 + 1)] dX8_lays_139 rfl vX8_breaks lX8_108 (Or.inl dd_54) rfl (Nat.le_of_ble_eq_true rfl) (Nat.le_refl 0) (Nat.le_refl 0) ?_
      refine Cl_mono P ?_
      rintro _ μ9 ⟨r10, rfl, P⟩
      show Z SS none mX8_lays (d + 1) 0 0 (qI Q) 142 [some (.ref 54), some (vi x1), some (vi x2), some (vi x3), some (vi x4), some (vi (x5 + 1)), some (vi x6), some (vi (if x10 ≤ x7 then x7 else x10)), some (vi (s2 + (s1 + s0))), none, some (vi x10), none] [vi r10] μ9 0 0
      have K : ∀ t13 : Int, t13 = (if r10 = 0 then 1 else 0) → Z SS none mX8_lays (d + 1) 0 0 (qI Q) 150 [some (.ref 54), some (vi x1), some (vi x2), some (vi x3), some (vi x4), some (vi (x5 + 1)), some (vi x6), some (vi (if x10 ≤ x7 then x7 else x10)), some (vi (s2 + (s1 + s0))), none, some (vi x10), none] [vi t13] μ9 0 0 := by
        rintro _ rfl
        have P := P.2
        refine Z_istore (pc' := 152) (lo' := [some (.ref 54), some (vi x1), some (vi x2), some (vi x3), some (vi x4), some (vi (x5 + 1)), some (vi x6), some (vi (if x10 ≤ x7 then x7 else x10)), some (vi (s2 + (s1 + s0))), some (vi (if r10 = 0 then 1 else 0)), some (vi x10), none]) dX8_lays_150 rfl (by decide) rfl ?_
        refine Z_aload_n (pc' := 153) dX8_lays_152 rfl rfl ?_
        refine Z_iload (pc' := 155) dX8_lays_153 rfl rfl ?_
        refine Z_putI' (ji := 11) (pc' := 158) dX8_lays_155 rfl rfl fX8_111 (Or.inl rfl) rfl (Or.inl dd_54) ?_
        refine Z_iload (pc' := 160) dX8_lays_158 rfl rfl ?_
        refine Z_if_eq (tgt := 176) (pc' := 163) dX8_lays_160 (by decide) rfl (by (repeat' split) <;> exact z_lit rfl) (fun c14 => ?_) (fun c14 => ?_)
        · have P := P.1 c14
          refine Z_goto (tgt := 49) dX8_lays_176 (by decide) ?_
          refine Z_wk [true, true, true, true, true, true, true, true, true, true, false, true] rfl ?_
          exact P
        · have P := P.2 c14
          refine Z_aload_n (pc' := 164) dX8_lays_163 rfl rfl ?_
          refine Z_iload (pc' := 166) dX8_lays_164 rfl rfl ?_
          refine Z_iconst (pc' := 167) dX8_lays_166 rfl ?_
          refine Z_callV0 (M' := mX8_of) (pc' := 170) (st := []) [vi (x5 + 1), vi 2] dX8_lays_167 rfl vX8_of lX8_93 (Or.inl dd_54) rfl (Nat.le_of_ble_eq_true rfl) (Nat.le_refl 0) (Nat.le_refl 0) ?_
          refine Cl_mono P ?_
          rintro _ μ15 ⟨r16, rfl, P⟩
          show Z SS none mX8_lays (d + 1) 0 0 (qI Q) 170 [some (.ref 54), some (vi x1), some (vi x2), some (vi x3), some (vi x4), some (vi (x5 + 1)), some (vi x6), some (vi (if x10 ≤ x7 then x7 else x10)), some (vi (s2 + (s1 + s0))), some (vi (if r10 = 0 then 1 else 0)), some (vi x10), none] [vi r16] μ15 0 0
          refine Z_iconst (pc' := 171) dX8_lays_170 rfl ?_
          have h17 := P.1
          have P := P.2
          refine Z_icmp_ne (tgt := 176) (pc' := 174) dX8_lays_171 (by decide) rfl h17 (z_lit rfl) (fun c18 => ?_) (fun c18 => ?_)
          · have P := P.2 c18
            refine Z_goto (tgt := 49) dX8_lays_176 (by decide) ?_
            refine Z_wk [true, true, true, true, true, true, true, true, true, true, false, true] rfl ?_
            exact P
          · have P := P.1 c18
            refine Z_iconst (pc' := 175) dX8_lays_174 rfl ?_
            exact Z_ireturn dX8_lays_175 rfl (Nat.le_refl 0) (Nat.le_refl 0) P
      have G := P.1
      have h11 := G
      refine Z_if_ne (tgt := 149) (pc' := 145) dX8_lays_142 (by decide) rfl h11 (fun c12 => ?_) (fun c12 => ?_)
      · refine Z_iconst (pc' := 150) dX8_lays_149 rfl ?_
        refine Z_wk [true, true, true, true, true, true, true, true, true, false, true, false] rfl ?_
        exact K _ (by rw [if_neg c12])
      · refine Z_iconst (pc' := 146) dX8_lays_145 rfl ?_
        refine Z_goto (tgt := 150) dX8_lays_146 (by decide) ?_
        refine Z_wk [true, true, true, true, true, true, true, true, true, false, true, false] rfl ?_
        exact K _ (by rw [if_pos c12])
  have G := P.1
  have h1 := G.1
  have G := G.2
  have h2 := G
  refine Z_icmp_le (tgt := 116) (pc' := 111) dX8_lays_108 (by decide) rfl h1 h2 (fun c3 => ?_) (fun c3 => ?_)
  · refine Z_iload (pc' := 118) dX8_lays_116 rfl rfl ?_
    refine Z_wk [true, true, true, true, true, true, true, true, true, false, true, false] rfl ?_
    exact K _ (by rw [if_pos c3])
  · refine Z_iload (pc' := 113) dX8_lays_111 rfl rfl ?_
    refine Z_goto (tgt := 118) dX8_lays_113 (by decide) ?_
    refine Z_wk [true, true, true, true, true, true, true, true, true, false, true, false] rfl ?_
    exact K _ (by rw [if_neg c3])
abbrev zX8_chains_10 (d : Nat) (Q : zMem → Prop) (x1 : Int) (μ : zMem) : Prop := Z SS none mX8_chains (d + 1) 0 0 (qV Q) 10 [some (.ref 54), some (vi x1), none, none] [] μ 0 0
abbrev zX8_chains_37 (d : Nat) (Q : zMem → Prop) (x1 : Int) (x2 : Int) (μ : zMem) : Prop := Z SS none mX8_chains (d + 1) 0 0 (qV Q) 37 [some (.ref 54), some (vi x1), some (vi x2), none] [] μ 0 0
abbrev zX8_chains_146 (d : Nat) (Q : zMem → Prop) (x1 : Int) (μ : zMem) : Prop := Z SS none mX8_chains (d + 1) 0 0 (qV Q) 146 [some (.ref 54), some (vi x1), none, none] [] μ 0 0
abbrev zX8_chains_95 (d : Nat) (Q : zMem → Prop) (x1 : Int) (x2 : Int) (s0 : Int) (μ : zMem) : Prop := Z SS none mX8_chains (d + 1) 0 0 (qV Q) 95 [some (.ref 54), some (vi x1), some (vi x2), none] [vi s0] μ 0 0
theorem bX8_chains {d : Nat} {Q : zMem → Prop} {μ : zMem}  (P : zX8_chains_10 d Q ((gI μ 55 31) - 1) μ) : kX8_chains (d + 1) μ Q := by
  refine Cl_of rfl (Nat.le_of_ble_eq_true rfl) rfl ?_
  show Z SS none mX8_chains (d + 1) 0 0 (qV Q) 0 [some (.ref 54), none, none, none] [] μ 0 0
  refine Z_aload_n (pc' := 1) dX8_chains_0 rfl rfl ?_
  refine Z_getR (q := 55) (pc' := 4) dX8_chains_1 rfl fX8_7 rfl (Or.inl dd_54) (Or.inl rr_54_0) ?_
  refine Z_bipush (pc' := 6) dX8_chains_4 rfl rfl ?_
  refine Z_iaload (pc' := 7) dX8_chains_6 rfl (Or.inl dd_55) (Nat.le_of_ble_eq_true rfl) (by decide) (by decide) ?_
  refine Z_iconst (pc' := 8) dX8_chains_7 rfl ?_
  refine Z_isub (pc' := 9) dX8_chains_8 rfl ?_
  refine Z_istore_n (pc' := 10) (lo' := [some (.ref 54), some (vi ((gI μ 55 31) - 1)), none, none]) dX8_chains_9 rfl (by decide) rfl ?_
  exact P
theorem bX8_chains_10 {d : Nat} {Q : zMem → Prop} {μ : zMem} {x1 : Int} (P : (zIn x1) ∧ ((x1 < 0 → (Q μ)) ∧ (¬ (x1 < 0) → (kX8_hasGap d x1 μ (fun (r4 : Int) (μ3 : zMem) => ((zIn r4)) ∧ ((0 ≤ x1) ∧ ((x1 < 14) ∧ (zX8_chains_37 d Q x1 (x1 + 1) (sI μ3 62 x1 (if r4 = 0 then 0 else 1)))))))))) : zX8_chains_10 d Q x1 μ := by
  refine Z_iload_n (pc' := 11) dX8_chains_10 rfl rfl ?_
  have h1 := P.1
  have P := P.2
  refine Z_if_lt (tgt := 189) (pc' := 14) dX8_chains_11 (by decide) rfl h1 (fun c2 => ?_) (fun c2 => ?_)
  · have P := P.1 c2
    exact Z_return dX8_chains_189 rfl (Nat.le_refl 0) (Nat.le_refl 0) P
  · have P := P.2 c2
    refine Z_aload_n (pc' := 15) dX8_chains_14 rfl rfl ?_
    refine Z_getR (q := 62) (pc' := 18) dX8_chains_15 rfl fX8_32 rfl (Or.inl dd_54) (Or.inl rr_54_9) ?_
    refine Z_iload_n (pc' := 19) dX8_chains_18 rfl rfl ?_
    refine Z_aload_n (pc' := 20) dX8_chains_19 rfl rfl ?_
    refine Z_iload_n (pc' := 21) dX8_chains_20 rfl rfl ?_
    refine Z_callV0 (M' := mX8_hasGap) (pc' := 24) (st := [vi x1, .ref 62]) [vi x1] dX8_chains_21 rfl vX8_hasGap lX8_120 (Or.inl dd_54) rfl (Nat.le_of_ble_eq_true rfl) (Nat.le_refl 0) (Nat.le_refl 0) ?_
    refine Cl_mono P ?_
    rintro _ μ3 ⟨r4, rfl, P⟩
    show Z SS none mX8_chains (d + 1) 0 0 (qV Q) 24 [some (.ref 54), some (vi x1), none, none] [vi r4, vi x1, .ref 62] μ3 0 0
    have K : ∀ t7 : Int, t7 = (if r4 = 0 then 0 else 1) → Z SS none mX8_chains (d + 1) 0 0 (qV Q) 32 [some (.ref 54), some (vi x1), none, none] [vi t7, vi x1, .ref 62] μ3 0 0 := by
      rintro _ rfl
      have P := P.2
      have h8 := P.1
      have P := P.2
      have h9 := P.1
      have P := P.2
      refine Z_iastore (pc' := 33) dX8_chains_32 rfl (Or.inl dd_62) (Nat.le_of_ble_eq_true rfl) h8 h9 ?_
      refine Z_iload_n (pc' := 34) dX8_chains_33 rfl rfl ?_
      refine Z_iconst (pc' := 35) dX8_chains_34 rfl ?_
      refine Z_iadd (pc' := 36) dX8_chains_35 rfl ?_
      refine Z_istore_n (pc' := 37) (lo' := [some (.ref 54), some (vi x1), some (vi (x1 + 1)), none]) dX8_chains_36 rfl (by decide) rfl ?_
      exact P
    have G := P.1
    have h5 := G
    refine Z_if_eq (tgt := 31) (pc' := 27) dX8_chains_24 (by decide) rfl h5 (fun c6 => ?_) (fun c6 => ?_)
    · refine Z_iconst (pc' := 32) dX8_chains_31 rfl ?_
      refine Z_wk [true, true, false, false] rfl ?_
      exact K _ (by rw [if_pos c6])
    · refine Z_iconst (pc' := 28) dX8_chains_27 rfl ?_
      refine Z_goto (tgt := 32) dX8_chains_28 (by decide) ?_
      refine Z_wk [true, true, false, false] rfl ?_
      exact K _ (by rw [if_neg c6])
theorem bX8_chains_37 {d : Nat} {Q : zMem → Prop} {μ : zMem} {x1 : Int} {x2 : Int} (P : (zIn x2) ∧ ((zIn (gI μ 55 31)) ∧ (((gI μ 55 31) ≤ x2 → (zX8_chains_146 d Q x1 μ)) ∧ (¬ ((gI μ 55 31) ≤ x2) → (kX8_hasGap d x1 μ (fun (r5 : Int) (μ4 : zMem) => (zIn r5) ∧ ((r5 = 0 → (zX8_chains_146 d Q x1 μ4)) ∧ (¬ (r5 = 0) → ((0 ≤ ((5 * x2) + 3)) ∧ ((((5 * x2) + 3) < 70) ∧ ((0 ≤ ((5 * x1) + 3)) ∧ ((((5 * x1) + 3) < 70) ∧ ((zIn (gI μ4 60 ((5 * x2) + 3))) ∧ ((zIn ((gI μ4 60 ((5 * x1) + 3)) + 1)) ∧ (((gI μ4 60 ((5 * x2) + 3)) = ((gI μ4 60 ((5 * x1) + 3)) + 1) → (kX8_touch d x2 x1 μ4 (fun (r16 : Int) (μ15 : zMem) => ((zIn r16)) ∧ (zX8_chains_95 d Q x1 x2 (if r16 = 0 then 0 else 1) μ15)))) ∧ (¬ ((gI μ4 60 ((5 * x2) + 3)) = ((gI μ4 60 ((5 * x1) + 3)) + 1)) → (zX8_chains_95 d Q x1 x2 0 μ4))))))))))))))))) : zX8_chains_37 d Q x1 x2 μ := by
  refine Z_iload_n (pc' := 38) dX8_chains_37 rfl rfl ?_
  refine Z_aload_n (pc' := 39) dX8_chains_38 rfl rfl ?_
  refine Z_getR (q := 55) (pc' := 42) dX8_chains_39 rfl fX8_7 rfl (Or.inl dd_54) (Or.inl rr_54_0) ?_
  refine Z_bipush (pc' := 44) dX8_chains_42 rfl rfl ?_
  refine Z_iaload (pc' := 45) dX8_chains_44 rfl (Or.inl dd_55) (Nat.le_of_ble_eq_true rfl) (by decide) (by decide) ?_
  have h1 := P.1
  have P := P.2
  have h2 := P.1
  have P := P.2
  refine Z_icmp_ge (tgt := 146) (pc' := 48) dX8_chains_45 (by decide) rfl h1 h2 (fun c3 => ?_) (fun c3 => ?_)
  · have P := P.1 c3
    refine Z_wk [true, true, false, true] rfl ?_
    exact P
  · have P := P.2 c3
    refine Z_aload_n (pc' := 49) dX8_chains_48 rfl rfl ?_
    refine Z_iload_n (pc' := 50) dX8_chains_49 rfl rfl ?_
    refine Z_callV0 (M' := mX8_hasGap) (pc' := 53) (st := []) [vi x1] dX8_chains_50 rfl vX8_hasGap lX8_120 (Or.inl dd_54) rfl (Nat.le_of_ble_eq_true rfl) (Nat.le_refl 0) (Nat.le_refl 0) ?_
    refine Cl_mono P ?_
    rintro _ μ4 ⟨r5, rfl, P⟩
    show Z SS none mX8_chains (d + 1) 0 0 (qV Q) 53 [some (.ref 54), some (vi x1), some (vi x2), none] [vi r5] μ4 0 0
    have h6 := P.1
    have P := P.2
    refine Z_if_eq (tgt := 146) (pc' := 56) dX8_chains_53 (by decide) rfl h6 (fun c7 => ?_) (fun c7 => ?_)
    · have P := P.1 c7
      refine Z_wk [true, true, false, true] rfl ?_
      exact P
    · have P := P.2 c7
      refine Z_aload_n (pc' := 57) dX8_chains_56 rfl rfl ?_
      refine Z_getR (q := 60) (pc' := 60) dX8_chains_57 rfl fX8_26 rfl (Or.inl dd_54) (Or.inl rr_54_6) ?_
      refine Z_iconst (pc' := 61) dX8_chains_60 rfl ?_
      refine Z_iload_n (pc' := 62) dX8_chains_61 rfl rfl ?_
      refine Z_imul (pc' := 63) dX8_chains_62 rfl ?_
      refine Z_iconst (pc' := 64) dX8_chains_63 rfl ?_
      refine Z_iadd (pc' := 65) dX8_chains_64 rfl ?_
      have h8 := P.1
      have P := P.2
      have h9 := P.1
      have P := P.2
      refine Z_iaload (pc' := 66) dX8_chains_65 rfl (Or.inl dd_60) (Nat.le_of_ble_eq_true rfl) h8 h9 ?_
      refine Z_aload_n (pc' := 67) dX8_chains_66 rfl rfl ?_
      refine Z_getR (q := 60) (pc' := 70) dX8_chains_67 rfl fX8_26 rfl (Or.inl dd_54) (Or.inl rr_54_6) ?_
      refine Z_iconst (pc' := 71) dX8_chains_70 rfl ?_
      refine Z_iload_n (pc' := 72) dX8_chains_71 rfl rfl ?_
      refine Z_imul (pc' := 73) dX8_chains_72 rfl ?_
      refine Z_iconst (pc' := 74) dX8_chains_73 rfl ?_
      refine Z_iadd (pc' := 75) dX8_chains_74 rfl ?_
      have h10 := P.1
      have P := P.2
      have h11 := P.1
      have P := P.2
      refine Z_iaload (pc' := 76) dX8_chains_75 rfl (Or.inl dd_60) (Nat.le_of_ble_eq_true rfl) h10 h11 ?_
      refine Z_iconst (pc' := 77) dX8_chains_76 rfl ?_
      refine Z_iadd (pc' := 78) dX8_chains_77 rfl ?_
      have h12 := P.1
      have P := P.2
      have h13 := P.1
      have P := P.2
      refine Z_icmp_ne (tgt := 94) (pc' := 81) dX8_chains_78 (by decide) rfl h12 h13 (fun c14 => ?_) (fun c14 => ?_)
      · have P := P.2 c14
        refine Z_iconst (pc' := 95) dX8_chains_94 rfl ?_
        exact P
      · have P := P.1 c14
        refine Z_aload_n (pc' := 82) dX8_chains_81 rfl rfl ?_
        refine Z_iload_n (pc' := 83) dX8_chains_82 rfl rfl ?_
        refine Z_iload_n (pc' := 84) dX8_chains_83 rfl rfl ?_
        refine Z_callV0 (M' := mX8_touch) (pc' := 87) (st := []) [vi x2, vi x1] dX8_chains_84 rfl vX8_touch lX8_126 (Or.inl dd_54) rfl (Nat.le_of_ble_eq_true rfl) (Nat.le_refl 0) (Nat.le_refl 0) ?_
        refine Cl_mono P ?_
        rintro _ μ15 ⟨r16, rfl, P⟩
        show Z SS none mX8_chains (d + 1) 0 0 (qV Q) 87 [some (.ref 54), some (vi x1), some (vi x2), none] [vi r16] μ15 0 0
        have K : ∀ t19 : Int, t19 = (if r16 = 0 then 0 else 1) → Z SS none mX8_chains (d + 1) 0 0 (qV Q) 95 [some (.ref 54), some (vi x1), some (vi x2), none] [vi t19] μ15 0 0 := by
          rintro _ rfl
          have P := P.2
          exact P
        have G := P.1
        have h17 := G
        refine Z_if_eq (tgt := 94) (pc' := 90) dX8_chains_87 (by decide) rfl h17 (fun c18 => ?_) (fun c18 => ?_)
        · refine Z_iconst (pc' := 95) dX8_chains_94 rfl ?_
          refine Z_wk [true, true, true, false] rfl ?_
          exact K _ (by rw [if_pos c18])
        · refine Z_iconst (pc' := 91) dX8_chains_90 rfl ?_
          refine Z_goto (tgt := 95) dX8_chains_91 (by decide) ?_
          refine Z_wk [true, true, true, false] rfl ?_
          exact K _ (by rw [if_neg c18])
theorem bX8_chains_146 {d : Nat} {Q : zMem → Prop} {μ : zMem} {x1 : Int} (P : kX8_hasGap d x1 μ (fun (r2 : Int) (μ1 : zMem) => ((zIn r2) ∧ ((r2 = 0 → True) ∧ (¬ (r2 = 0) → ((0 ≤ x1) ∧ ((x1 < 14)))))) ∧ ((0 ≤ ((5 * x1) + 4)) ∧ ((((5 * x1) + 4) < 70) ∧ (zX8_chains_10 d Q (x1 + (-1)) (sI μ1 60 ((5 * x1) + 4) (if r2 = 0 then 0 else (((gI μ1 61 x1) + (gI μ1 62 x1)) - 1)))))))) : zX8_chains_146 d Q x1 μ := by
  refine Z_aload_n (pc' := 147) dX8_chains_146 rfl rfl ?_
  refine Z_getR (q := 60) (pc' := 150) dX8_chains_147 rfl fX8_26 rfl (Or.inl dd_54) (Or.inl rr_54_6) ?_
  refine Z_iconst (pc' := 151) dX8_chains_150 rfl ?_
  refine Z_iload_n (pc' := 152) dX8_chains_151 rfl rfl ?_
  refine Z_imul (pc' := 153) dX8_chains_152 rfl ?_
  refine Z_iconst (pc' := 154) dX8_chains_153 rfl ?_
  refine Z_iadd (pc' := 155) dX8_chains_154 rfl ?_
  refine Z_aload_n (pc' := 156) dX8_chains_155 rfl rfl ?_
  refine Z_iload_n (pc' := 157) dX8_chains_156 rfl rfl ?_
  refine Z_callV0 (M' := mX8_hasGap) (pc' := 160) (st := [vi ((5 * x1) + 4), .ref 60]) [vi x1] dX8_chains_157 rfl vX8_hasGap lX8_120 (Or.inl dd_54) rfl (Nat.le_of_ble_eq_true rfl) (Nat.le_refl 0) (Nat.le_refl 0) ?_
  refine Cl_mono P ?_
  rintro _ μ1 ⟨r2, rfl, P⟩
  show Z SS none mX8_chains (d + 1) 0 0 (qV Q) 160 [some (.ref 54), some (vi x1), none, none] [vi r2, vi ((5 * x1) + 4), .ref 60] μ1 0 0
  have K : ∀ t7 : Int, t7 = (if r2 = 0 then 0 else (((gI μ1 61 x1) + (gI μ1 62 x1)) - 1)) → Z SS none mX8_chains (d + 1) 0 0 (qV Q) 182 [some (.ref 54), some (vi x1), none, none] [vi t7, vi ((5 * x1) + 4), .ref 60] μ1 0 0 := by
    rintro _ rfl
    have P := P.2
    have h8 := P.1
    have P := P.2
    have h9 := P.1
    have P := P.2
    refine Z_iastore (pc' := 183) dX8_chains_182 rfl (Or.inl dd_60) (Nat.le_of_ble_eq_true rfl) h8 h9 ?_
    refine Z_iinc (pc' := 186) (lo' := [some (.ref 54), some (vi (x1 + (-1))), none, none]) dX8_chains_183 rfl (by decide) rfl rfl ?_
    refine Z_goto (tgt := 10) dX8_chains_186 (by decide) ?_
    exact P
  have G := P.1
  have h3 := G.1
  have G := G.2
  refine Z_if_eq (tgt := 181) (pc' := 163) dX8_chains_160 (by decide) rfl h3 (fun c4 => ?_) (fun c4 => ?_)
  · refine Z_iconst (pc' := 182) dX8_chains_181 rfl ?_
    refine Z_wk [true, true, false, false] rfl ?_
    exact K _ (by rw [if_pos c4])
  · have G := G.2 c4
    refine Z_aload_n (pc' := 164) dX8_chains_163 rfl rfl ?_
    refine Z_getR (q := 61) (pc' := 167) dX8_chains_164 rfl fX8_29 rfl (Or.inl dd_54) (Or.inl rr_54_8) ?_
    refine Z_iload_n (pc' := 168) dX8_chains_167 rfl rfl ?_
    have h5 := G.1
    have G := G.2
    have h6 := G
    refine Z_iaload (pc' := 169) dX8_chains_168 rfl (Or.inl dd_61) (Nat.le_of_ble_eq_true rfl) h5 h6 ?_
    refine Z_aload_n (pc' := 170) dX8_chains_169 rfl rfl ?_
    refine Z_getR (q := 62) (pc' := 173) dX8_chains_170 rfl fX8_32 rfl (Or.inl dd_54) (Or.inl rr_54_9) ?_
    refine Z_iload_n (pc' := 174) dX8_chains_173 rfl rfl ?_
    refine Z_iaload (pc' := 175) dX8_chains_174 rfl (Or.inl dd_62) (Nat.le_of_ble_eq_true rfl) h5 h6 ?_
    refine Z_iadd (pc' := 176) dX8_chains_175 rfl ?_
    refine Z_iconst (pc' := 177) dX8_chains_176 rfl ?_
    refine Z_isub (pc' := 178) dX8_chains_177 rfl ?_
    refine Z_goto (tgt := 182) dX8_chains_178 (by decide) ?_
    refine Z_wk [true, true, false, false] rfl ?_
    exact K _ (by rw [if_neg c4])
theorem bX8_chains_95 {d : Nat} {Q : zMem → Prop} {μ : zMem} {x1 : Int} {x2 : Int} {s0 : Int} (P : ((zIn s0) ∧ ((s0 = 0 → ((0 ≤ x1) ∧ ((x1 < 14)))) ∧ (¬ (s0 = 0) → ((0 ≤ x2) ∧ ((x2 < 14) ∧ ((0 ≤ x1) ∧ ((x1 < 14) ∧ ((zIn ((gI μ 62 x2) + 1)) ∧ ((zIn (gI μ 62 x1))))))))))) ∧ ((0 ≤ x1) ∧ ((x1 < 14) ∧ (zX8_chains_37 d Q x1 (x2 + 1) (sI μ 62 x1 (if s0 = 0 then (gI μ 62 x1) else (if ((gI μ 62 x2) + 1) ≤ (gI μ 62 x1) then (gI μ 62 x1) else ((gI μ 62 x2) + 1)))))))) : zX8_chains_95 d Q x1 x2 s0 μ := by
  refine Z_istore_n (pc' := 96) (lo' := [some (.ref 54), some (vi x1), some (vi x2), some (vi s0)]) dX8_chains_95 rfl (by decide) rfl ?_
  refine Z_aload_n (pc' := 97) dX8_chains_96 rfl rfl ?_
  refine Z_getR (q := 62) (pc' := 100) dX8_chains_97 rfl fX8_32 rfl (Or.inl dd_54) (Or.inl rr_54_9) ?_
  refine Z_iload_n (pc' := 101) dX8_chains_100 rfl rfl ?_
  refine Z_iload_n (pc' := 102) dX8_chains_101 rfl rfl ?_
  have K : ∀ t12 : Int, t12 = (if s0 = 0 then (gI μ 62 x1) else (if ((gI μ 62 x2) + 1) ≤ (gI μ 62 x1) then (gI μ 62 x1) else ((gI μ 62 x2) + 1))) → Z SS none mX8_chains (d + 1) 0 0 (qV Q) 139 [some (.ref 54), some (vi x1), some (vi x2), some (vi s0)] [vi t12, vi x1, .ref 62] μ 0 0 := by
    rintro _ rfl
    have P := P.2
    have h13 := P.1
    have P := P.2
    have h14 := P.1
    have P := P.2
    refine Z_iastore (pc' := 140) dX8_chains_139 rfl (Or.inl dd_62) (Nat.le_of_ble_eq_true rfl) h13 h14 ?_
    refine Z_iinc (pc' := 143) (lo' := [some (.ref 54), some (vi x1), some (vi (x2 + 1)), some (vi s0)]) dX8_chains_140 rfl (by decide) rfl rfl ?_
    refine Z_goto (tgt := 37) dX8_chains_143 (by decide) ?_
    refine Z_wk [true, true, true, false] rfl ?_
    exact P
  have G := P.1
  have h1 := G.1
  have G := G.2
  refine Z_if_eq (tgt := 133) (pc' := 105) dX8_chains_102 (by decide) rfl h1 (fun c2 => ?_) (fun c2 => ?_)
  · have G := G.1 c2
    refine Z_aload_n (pc' := 134) dX8_chains_133 rfl rfl ?_
    refine Z_getR (q := 62) (pc' := 137) dX8_chains_134 rfl fX8_32 rfl (Or.inl dd_54) (Or.inl rr_54_9) ?_
    refine Z_iload_n (pc' := 138) dX8_chains_137 rfl rfl ?_
    have h3 := G.1
    have G := G.2
    have h4 := G
    refine Z_iaload (pc' := 139) dX8_chains_138 rfl (Or.inl dd_62) (Nat.le_of_ble_eq_true rfl) h3 h4 ?_
    exact K _ (by rw [if_pos c2])
  · have G := G.2 c2
    refine Z_aload_n (pc' := 106) dX8_chains_105 rfl rfl ?_
    refine Z_getR (q := 62) (pc' := 109) dX8_chains_106 rfl fX8_32 rfl (Or.inl dd_54) (Or.inl rr_54_9) ?_
    refine Z_iload_n (pc' := 110) dX8_chains_109 rfl rfl ?_
    have h5 := G.1
    have G := G.2
    have h6 := G.1
    have G := G.2
    refine Z_iaload (pc' := 111) dX8_chains_110 rfl (Or.inl dd_62) (Nat.le_of_ble_eq_true rfl) h5 h6 ?_
    refine Z_iconst (pc' := 112) dX8_chains_111 rfl ?_
    refine Z_iadd (pc' := 113) dX8_chains_112 rfl ?_
    refine Z_aload_n (pc' := 114) dX8_chains_113 rfl rfl ?_
    refine Z_getR (q := 62) (pc' := 117) dX8_chains_114 rfl fX8_32 rfl (Or.inl dd_54) (Or.inl rr_54_9) ?_
    refine Z_iload_n (pc' := 118) dX8_chains_117 rfl rfl ?_
    have h7 := G.1
    have G := G.2
    have h8 := G.1
    have G := G.2
    refine Z_iaload (pc' := 119) dX8_chains_118 rfl (Or.inl dd_62) (Nat.le_of_ble_eq_true rfl) h7 h8 ?_
    have h9 := G.1
    have G := G.2
    have h10 := G
    refine Z_icmp_le (tgt := 133) (pc' := 122) dX8_chains_119 (by decide) rfl h9 h10 (fun c11 => ?_) (fun c11 => ?_)
    · refine Z_aload_n (pc' := 134) dX8_chains_133 rfl rfl ?_
      refine Z_getR (q := 62) (pc' := 137) dX8_chains_134 rfl fX8_32 rfl (Or.inl dd_54) (Or.inl rr_54_9) ?_
      refine Z_iload_n (pc' := 138) dX8_chains_137 rfl rfl ?_
      refine Z_iaload (pc' := 139) dX8_chains_138 rfl (Or.inl dd_62) (Nat.le_of_ble_eq_true rfl) h7 h8 ?_
      exact K _ (by rw [if_neg c2, if_pos c11])
    · refine Z_aload_n (pc' := 123) dX8_chains_122 rfl rfl ?_
      refine Z_getR (q := 62) (pc' := 126) dX8_chains_123 rfl fX8_32 rfl (Or.inl dd_54) (Or.inl rr_54_9) ?_
      refine Z_iload_n (pc' := 127) dX8_chains_126 rfl rfl ?_
      refine Z_iaload (pc' := 128) dX8_chains_127 rfl (Or.inl dd_62) (Nat.le_of_ble_eq_true rfl) h5 h6 ?_
      refine Z_iconst (pc' := 129) dX8_chains_128 rfl ?_
      refine Z_iadd (pc' := 130) dX8_chains_129 rfl ?_
      refine Z_goto (tgt := 139) dX8_chains_130 (by decide) ?_
      exact K _ (by rw [if_neg c2, if_neg c11])
abbrev zX8_finds_33 (d : Nat) (Q : Int → zMem → Prop) (x1 : Int) (x2 : Int) (x3 : Int) (x4 : Int) (μ : zMem) : Prop := Z SS none mX8_finds (d + 1) 0 0 (qI Q) 33 [some (.ref 54), some (vi x1), some (vi x2), some (vi x3), some (vi x4), none] [] μ 0 0
abbrev zX8_finds_116 (d : Nat) (Q : Int → zMem → Prop) (x1 : Int) (x2 : Int) (x3 : Int) (x5 : Int) (s0 : Int) (μ : zMem) : Prop := Z SS none mX8_finds (d + 1) 0 0 (qI Q) 116 [some (.ref 54), some (vi x1), some (vi x2), some (vi x3), none, some (vi x5)] [vi s0] μ 0 0
theorem bX8_finds {d : Nat} {Q : Int → zMem → Prop} {μ : zMem} {x1 : Int} (P : kX8_isLeast d x1 (sI (sI μ 54 12 0) 54 13 (-1)) (fun (r2 : Int) (μ1 : zMem) => ∃ z3 : Int, (Int32.ofInt 1 <<< (Int32.ofInt ((gI μ1 55 31) - 1) &&& 31) = Int32.ofInt z3) ∧ (zX8_finds_33 d Q x1 (-1) r2 (z3 - 1) μ1))) : kX8_finds (d + 1) x1 μ Q := by
  refine Cl_of rfl (Nat.le_of_ble_eq_true rfl) rfl ?_
  show Z SS none mX8_finds (d + 1) 0 0 (qI Q) 0 [some (.ref 54), some (vi x1), none, none, none, none] [] μ 0 0
  refine Z_iconst (pc' := 1) dX8_finds_0 rfl ?_
  refine Z_istore_n (pc' := 2) (lo' := [some (.ref 54), some (vi x1), some (vi (-1)), none, none, none]) dX8_finds_1 rfl (by decide) rfl ?_
  refine Z_aload_n (pc' := 3) dX8_finds_2 rfl rfl ?_
  refine Z_iconst (pc' := 4) dX8_finds_3 rfl ?_
  refine Z_putI' (ji := 12) (pc' := 7) dX8_finds_4 rfl rfl fX8_129 (Or.inl rfl) rfl (Or.inl dd_54) ?_
  refine Z_aload_n (pc' := 8) dX8_finds_7 rfl rfl ?_
  refine Z_iconst (pc' := 9) dX8_finds_8 rfl ?_
  refine Z_putI' (ji := 13) (pc' := 12) dX8_finds_9 rfl rfl fX8_132 (Or.inl rfl) rfl (Or.inl dd_54) ?_
  refine Z_aload_n (pc' := 13) dX8_finds_12 rfl rfl ?_
  refine Z_iload_n (pc' := 14) dX8_finds_13 rfl rfl ?_
  refine Z_callV0 (M' := mX8_isLeast) (pc' := 17) (st := []) [vi x1] dX8_finds_14 rfl vX8_isLeast lX8_135 (Or.inl dd_54) rfl (Nat.le_of_ble_eq_true rfl) (Nat.le_refl 0) (Nat.le_refl 0) ?_
  refine Cl_mono P ?_
  rintro _ μ1 ⟨r2, rfl, P⟩
  show Z SS none mX8_finds (d + 1) 0 0 (qI Q) 17 [some (.ref 54), some (vi x1), some (vi (-1)), none, none, none] [vi r2] μ1 0 0
  refine Z_istore_n (pc' := 18) (lo' := [some (.ref 54), some (vi x1), some (vi (-1)), some (vi r2), none, none]) dX8_finds_17 rfl (by decide) rfl ?_
  refine Z_iconst (pc' := 19) dX8_finds_18 rfl ?_
  refine Z_aload_n (pc' := 20) dX8_finds_19 rfl rfl ?_
  refine Z_getR (q := 55) (pc' := 23) dX8_finds_20 rfl fX8_7 rfl (Or.inl dd_54) (Or.inl rr_54_0) ?_
  refine Z_bipush (pc' := 25) dX8_finds_23 rfl rfl ?_
  refine Z_iaload (pc' := 26) dX8_finds_25 rfl (Or.inl dd_55) (Nat.le_of_ble_eq_true rfl) (by decide) (by decide) ?_
  refine Z_iconst (pc' := 27) dX8_finds_26 rfl ?_
  refine Z_isub (pc' := 28) dX8_finds_27 rfl ?_
  obtain ⟨z3, h4, P⟩ := P
  refine Z_ishl (z := z3) (pc' := 29) dX8_finds_28 rfl h4 ?_
  refine Z_iconst (pc' := 30) dX8_finds_29 rfl ?_
  refine Z_isub (pc' := 31) dX8_finds_30 rfl ?_
  refine Z_istore (pc' := 33) (lo' := [some (.ref 54), some (vi x1), some (vi (-1)), some (vi r2), some (vi (z3 - 1)), none]) dX8_finds_31 rfl (by decide) rfl ?_
  exact P
theorem bX8_finds_33 {d : Nat} {Q : Int → zMem → Prop} {μ : zMem} {x1 : Int} {x2 : Int} {x3 : Int} {x4 : Int} (P : (zIn x4) ∧ ((x4 < 0 → (Q x2 μ)) ∧ (¬ (x4 < 0) → ((zIn x3) ∧ ((x3 = 0 → (Q x2 μ)) ∧ (¬ (x3 = 0) → (kX8_lays d x1 x4 μ (fun (r6 : Int) (μ5 : zMem) => ((zIn r6)) ∧ ((zIn r6) ∧ ((r6 = (-1) → ((zIn (gI (sI μ5 54 12 ((gI μ5 54 12) + (if r6 = (-1) then 0 else 1))) 54 11)) ∧ ((zIn (gI (sI μ5 54 12 ((gI μ5 54 12) + (if r6 = (-1) then 0 else 1))) 55 31)) ∧ (((gI (sI μ5 54 12 ((gI μ5 54 12) + (if r6 = (-1) then 0 else 1))) 55 31) ≤ (gI (sI μ5 54 12 ((gI μ5 54 12) + (if r6 = (-1) then 0 else 1))) 54 11) → (zX8_finds_116 d Q x1 x2 x3 r6 x4 (sI μ5 54 12 ((gI μ5 54 12) + (if r6 = (-1) then 0 else 1))))) ∧ (¬ ((gI (sI μ5 54 12 ((gI μ5 54 12) + (if r6 = (-1) then 0 else 1))) 55 31) ≤ (gI (sI μ5 54 12 ((gI μ5 54 12) + (if r6 = (-1) then 0 else 1))) 54 11)) → (∃ z15 : Int, (Int32.ofInt 1 <<< (Int32.ofInt (((gI (sI μ5 54 12 ((gI μ5 54 12) + (if r6 = (-1) then 0 else 1))) 55 31) - 1) - (gI (sI μ5 54 12 ((gI μ5 54 12) + (if r6 = (-1) then 0 else 1))) 54 11)) &&& 31) = Int32.ofInt z15) ∧ (∃ z17 : Int, (Int32.ofInt x4 &&& Int32.ofInt (-z15) = Int32.ofInt z17) ∧ (zX8_finds_116 d Q x1 x2 x3 r6 z17 (sI μ5 54 12 ((gI μ5 54 12) + (if r6 = (-1) then 0 else 1))))))))))) ∧ (¬ (r6 = (-1)) → (zX8_finds_116 d Q x1 x2 x3 r6 x4 (sI μ5 54 12 ((gI μ5 54 12) + (if r6 = (-1) then 0 else 1))))))))))))))) : zX8_finds_33 d Q x1 x2 x3 x4 μ := by
  refine Z_iload (pc' := 35) dX8_finds_33 rfl rfl ?_
  have h1 := P.1
  have P := P.2
  refine Z_if_lt (tgt := 150) (pc' := 38) dX8_finds_35 (by decide) rfl h1 (fun c2 => ?_) (fun c2 => ?_)
  · have P := P.1 c2
    refine Z_iload_n (pc' := 151) dX8_finds_150 rfl rfl ?_
    exact Z_ireturn dX8_finds_151 rfl (Nat.le_refl 0) (Nat.le_refl 0) P
  · have P := P.2 c2
    refine Z_iload_n (pc' := 39) dX8_finds_38 rfl rfl ?_
    have h3 := P.1
    have P := P.2
    refine Z_if_eq (tgt := 150) (pc' := 42) dX8_finds_39 (by decide) rfl h3 (fun c4 => ?_) (fun c4 => ?_)
    · have P := P.1 c4
      refine Z_iload_n (pc' := 151) dX8_finds_150 rfl rfl ?_
      exact Z_ireturn dX8_finds_151 rfl (Nat.le_refl 0) (Nat.le_refl 0) P
    · have P := P.2 c4
      refine Z_aload_n (pc' := 43) dX8_finds_42 rfl rfl ?_
      refine Z_iload_n (pc' := 44) dX8_finds_43 rfl rfl ?_
      refine Z_iload (pc' := 46) dX8_finds_44 rfl rfl ?_
      refine Z_callV0 (M' := mX8_lays) (pc' := 49) (st := []) [vi x1, vi x4] dX8_finds_46 rfl vX8_lays lX8_138 (Or.inl dd_54) rfl (Nat.le_of_ble_eq_true rfl) (Nat.le_refl 0) (Nat.le_refl 0) ?_
      refine Cl_mono P ?_
      rintro _ μ5 ⟨r6, rfl, P⟩
      show Z SS none mX8_finds (d + 1) 0 0 (qI Q) 49 [some (.ref 54), some (vi x1), some (vi x2), some (vi x3), some (vi x4), none] [vi r6] μ5 0 0
      refine Z_istore (pc' := 51) (lo' := [some (.ref 54), some (vi x1), some (vi x2), some (vi x3), some (vi x4), some (vi r6)]) dX8_finds_49 rfl (by decide) rfl ?_
      refine Z_aload_n (pc' := 52) dX8_finds_51 rfl rfl ?_
      refine Z_dup (pc' := 53) dX8_finds_52 rfl rfl ?_
      refine Z_getI' (ji := 12) (pc' := 56) dX8_finds_53 rfl rfl fX8_129 rfl (Or.inl dd_54) ?_
      refine Z_iload (pc' := 58) dX8_finds_56 rfl rfl ?_
      refine Z_iconst (pc' := 59) dX8_finds_58 rfl ?_
      have K : ∀ t9 : Int, t9 = (if r6 = (-1) then 0 else 1) → Z SS none mX8_finds (d + 1) 0 0 (qI Q) 67 [some (.ref 54), some (vi x1), some (vi x2), some (vi x3), some (vi x4), some (vi r6)] [vi t9, vi (gI μ5 54 12), .ref 54] μ5 0 0 := by
        rintro _ rfl
        have P := P.2
        refine Z_iadd (pc' := 68) dX8_finds_67 rfl ?_
        refine Z_putI' (ji := 12) (pc' := 71) dX8_finds_68 rfl rfl fX8_129 (Or.inl rfl) rfl (Or.inl dd_54) ?_
        refine Z_iload (pc' := 73) dX8_finds_71 rfl rfl ?_
        refine Z_iconst (pc' := 74) dX8_finds_73 rfl ?_
        have h10 := P.1
        have P := P.2
        refine Z_icmp_ne (tgt := 114) (pc' := 77) dX8_finds_74 (by decide) rfl h10 (z_lit rfl) (fun c11 => ?_) (fun c11 => ?_)
        · have P := P.2 c11
          refine Z_iload (pc' := 116) dX8_finds_114 rfl rfl ?_
          refine Z_wk [true, true, true, true, false, true] rfl ?_
          exact P
        · have P := P.1 c11
          refine Z_aload_n (pc' := 78) dX8_finds_77 rfl rfl ?_
          refine Z_getI' (ji := 11) (pc' := 81) dX8_finds_78 rfl rfl fX8_111 rfl (Or.inl dd_54) ?_
          refine Z_aload_n (pc' := 82) dX8_finds_81 rfl rfl ?_
          refine Z_getR (q := 55) (pc' := 85) dX8_finds_82 rfl fX8_7 rfl (Or.inl dd_54) (Or.inl rr_54_0) ?_
          refine Z_bipush (pc' := 87) dX8_finds_85 rfl rfl ?_
          refine Z_iaload (pc' := 88) dX8_finds_87 rfl (Or.inl dd_55) (Nat.le_of_ble_eq_true rfl) (by decide) (by decide) ?_
          have h12 := P.1
          have P := P.2
          have h13 := P.1
          have P := P.2
          refine Z_icmp_ge (tgt := 114) (pc' := 91) dX8_finds_88 (by decide) rfl h12 h13 (fun c14 => ?_) (fun c14 => ?_)
          · have P := P.1 c14
            refine Z_iload (pc' := 116) dX8_finds_114 rfl rfl ?_
            refine Z_wk [true, true, true, true, false, true] rfl ?_
            exact P
          · have P := P.2 c14
            refine Z_iload (pc' := 93) dX8_finds_91 rfl rfl ?_
            refine Z_iconst (pc' := 94) dX8_finds_93 rfl ?_
            refine Z_aload_n (pc' := 95) dX8_finds_94 rfl rfl ?_
            refine Z_getR (q := 55) (pc' := 98) dX8_finds_95 rfl fX8_7 rfl (Or.inl dd_54) (Or.inl rr_54_0) ?_
            refine Z_bipush (pc' := 100) dX8_finds_98 rfl rfl ?_
            refine Z_iaload (pc' := 101) dX8_finds_100 rfl (Or.inl dd_55) (Nat.le_of_ble_eq_true rfl) (by decide) (by decide) ?_
            refine Z_iconst (pc' := 102) dX8_finds_101 rfl ?_
            refine Z_isub (pc' := 103) dX8_finds_102 rfl ?_
            refine Z_aload_n (pc' := 104) dX8_finds_103 rfl rfl ?_
            refine Z_getI' (ji := 11) (pc' := 107) dX8_finds_104 rfl rfl fX8_111 rfl (Or.inl dd_54) ?_
            refine Z_isub (pc' := 108) dX8_finds_107 rfl ?_
            obtain ⟨z15, h16, P⟩ := P
            refine Z_ishl (z := z15) (pc' := 109) dX8_finds_108 rfl h16 ?_
            refine Z_ineg (pc' := 110) dX8_finds_109 rfl ?_
            obtain ⟨z17, h18, P⟩ := P
            refine Z_iand (z := z17) (pc' := 111) dX8_finds_110 rfl h18 ?_
            refine Z_goto (tgt := 116) dX8_finds_111 (by decide) ?_
            refine Z_wk [true, true, true, true, false, true] rfl ?_
            exact P
      have G := P.1
      have h7 := G
      refine Z_icmp_eq (tgt := 66) (pc' := 62) dX8_finds_59 (by decide) rfl h7 (z_lit rfl) (fun c8 => ?_) (fun c8 => ?_)
      · refine Z_iconst (pc' := 67) dX8_finds_66 rfl ?_
        exact K _ (by rw [if_pos c8])
      · refine Z_iconst (pc' := 63) dX8_finds_62 rfl ?_
        refine Z_goto (tgt := 67) dX8_finds_63 (by decide) ?_
        exact K _ (by rw [if_neg c8])
theorem bX8_finds_116 {d : Nat} {Q : Int → zMem → Prop} {μ : zMem} {x1 : Int} {x2 : Int} {x3 : Int} {x5 : Int} {s0 : Int} (P : (zIn x5) ∧ ((x5 = (-1) → (zX8_finds_33 d Q x1 x2 x3 (s0 + (-1)) μ)) ∧ (¬ (x5 = (-1)) → ((zIn x2) ∧ ((x2 = (-1) → (zX8_finds_33 d Q x1 x5 x3 (s0 + (-1)) (sI μ 54 13 s0))) ∧ (¬ (x2 = (-1)) → ((x2 ≤ x5 → (zX8_finds_33 d Q x1 x2 x3 (s0 + (-1)) μ)) ∧ (¬ (x2 ≤ x5) → (zX8_finds_33 d Q x1 x5 x3 (s0 + (-1)) (sI μ 54 13 s0)))))))))) : zX8_finds_116 d Q x1 x2 x3 x5 s0 μ := by
  refine Z_istore (pc' := 118) (lo' := [some (.ref 54), some (vi x1), some (vi x2), some (vi x3), some (vi s0), some (vi x5)]) dX8_finds_116 rfl (by decide) rfl ?_
  refine Z_iload (pc' := 120) dX8_finds_118 rfl rfl ?_
  refine Z_iconst (pc' := 121) dX8_finds_120 rfl ?_
  have h1 := P.1
  have P := P.2
  refine Z_icmp_eq (tgt := 144) (pc' := 124) dX8_finds_121 (by decide) rfl h1 (z_lit rfl) (fun c2 => ?_) (fun c2 => ?_)
  · have P := P.1 c2
    refine Z_iinc (pc' := 147) (lo' := [some (.ref 54), some (vi x1), some (vi x2), some (vi x3), some (vi (s0 + (-1))), some (vi x5)]) dX8_finds_144 rfl (by decide) rfl rfl ?_
    refine Z_goto (tgt := 33) dX8_finds_147 (by decide) ?_
    refine Z_wk [true, true, true, true, true, false] rfl ?_
    exact P
  · have P := P.2 c2
    refine Z_iload_n (pc' := 125) dX8_finds_124 rfl rfl ?_
    refine Z_iconst (pc' := 126) dX8_finds_125 rfl ?_
    have h3 := P.1
    have P := P.2
    refine Z_icmp_eq (tgt := 135) (pc' := 129) dX8_finds_126 (by decide) rfl h3 (z_lit rfl) (fun c4 => ?_) (fun c4 => ?_)
    · have P := P.1 c4
      refine Z_iload (pc' := 137) dX8_finds_135 rfl rfl ?_
      refine Z_istore_n (pc' := 138) (lo' := [some (.ref 54), some (vi x1), some (vi x5), some (vi x3), some (vi s0), some (vi x5)]) dX8_finds_137 rfl (by decide) rfl ?_
      refine Z_aload_n (pc' := 139) dX8_finds_138 rfl rfl ?_
      refine Z_iload (pc' := 141) dX8_finds_139 rfl rfl ?_
      refine Z_putI' (ji := 13) (pc' := 144) dX8_finds_141 rfl rfl fX8_132 (Or.inl rfl) rfl (Or.inl dd_54) ?_
      refine Z_iinc (pc' := 147) (lo' := [some (.ref 54), some (vi x1), some (vi x5), some (vi x3), some (vi (s0 + (-1))), some (vi x5)]) dX8_finds_144 rfl (by decide) rfl rfl ?_
      refine Z_goto (tgt := 33) dX8_finds_147 (by decide) ?_
      refine Z_wk [true, true, true, true, true, false] rfl ?_
      exact P
    · have P := P.2 c4
      refine Z_iload (pc' := 131) dX8_finds_129 rfl rfl ?_
      refine Z_iload_n (pc' := 132) dX8_finds_131 rfl rfl ?_
      refine Z_icmp_ge (tgt := 144) (pc' := 135) dX8_finds_132 (by decide) rfl h1 h3 (fun c5 => ?_) (fun c5 => ?_)
      · have P := P.1 c5
        refine Z_iinc (pc' := 147) (lo' := [some (.ref 54), some (vi x1), some (vi x2), some (vi x3), some (vi (s0 + (-1))), some (vi x5)]) dX8_finds_144 rfl (by decide) rfl rfl ?_
        refine Z_goto (tgt := 33) dX8_finds_147 (by decide) ?_
        refine Z_wk [true, true, true, true, true, false] rfl ?_
        exact P
      · have P := P.2 c5
        refine Z_iload (pc' := 137) dX8_finds_135 rfl rfl ?_
        refine Z_istore_n (pc' := 138) (lo' := [some (.ref 54), some (vi x1), some (vi x5), some (vi x3), some (vi s0), some (vi x5)]) dX8_finds_137 rfl (by decide) rfl ?_
        refine Z_aload_n (pc' := 139) dX8_finds_138 rfl rfl ?_
        refine Z_iload (pc' := 141) dX8_finds_139 rfl rfl ?_
        refine Z_putI' (ji := 13) (pc' := 144) dX8_finds_141 rfl rfl fX8_132 (Or.inl rfl) rfl (Or.inl dd_54) ?_
        refine Z_iinc (pc' := 147) (lo' := [some (.ref 54), some (vi x1), some (vi x5), some (vi x3), some (vi (s0 + (-1))), some (vi x5)]) dX8_finds_144 rfl (by decide) rfl rfl ?_
        refine Z_goto (tgt := 33) dX8_finds_147 (by decide) ?_
        refine Z_wk [true, true, true, true, true, false] rfl ?_
        exact P
