abbrev zX8_fits_17 (d : Nat) (Q : Int → zMem → Prop) (x1 : Int) (μ : zMem) : Prop := Z SS none mX8_fits (d + 1) 0 0 (qI Q) 17 [some (.ref 54), some (vi x1)] [] μ 0 0
theorem bX8_fits {d : Nat} {Q : Int → zMem → Prop} {μ : zMem}  (P : ((zIn (gI μ 55 31))) ∧ (zX8_fits_17 d Q (if (gI μ 55 31) = 0 then 0 else 12) μ)) : kX8_fits (d + 1) μ Q := by
  refine Cl_of rfl (Nat.le_of_ble_eq_true rfl) rfl ?_
  show Z SS none mX8_fits (d + 1) 0 0 (qI Q) 0 [some (.ref 54), none] [] μ 0 0
  refine Z_aload_n (pc' := 1) dX8_fits_0 rfl rfl ?_
  refine Z_getR (q := 55) (pc' := 4) dX8_fits_1 rfl fX8_7 rfl (Or.inl dd_54) (Or.inl rr_54_0) ?_
  refine Z_bipush (pc' := 6) dX8_fits_4 rfl rfl ?_
  refine Z_iaload (pc' := 7) dX8_fits_6 rfl (Or.inl dd_55) (Nat.le_of_ble_eq_true rfl) (by decide) (by decide) ?_
  have K : ∀ t3 : Int, t3 = (if (gI μ 55 31) = 0 then 0 else 12) → Z SS none mX8_fits (d + 1) 0 0 (qI Q) 16 [some (.ref 54), none] [vi t3] μ 0 0 := by
    rintro _ rfl
    have P := P.2
    refine Z_istore_n (pc' := 17) (lo' := [some (.ref 54), some (vi (if (gI μ 55 31) = 0 then 0 else 12))]) dX8_fits_16 rfl (by decide) rfl ?_
    exact P
  have G := P.1
  have h1 := G
  refine Z_if_ne (tgt := 14) (pc' := 10) dX8_fits_7 (by decide) rfl h1 (fun c2 => ?_) (fun c2 => ?_)
  · refine Z_bipush (pc' := 16) dX8_fits_14 rfl rfl ?_
    refine Z_wk [true, false] rfl ?_
    exact K _ (by rw [if_neg c2])
  · refine Z_iconst (pc' := 11) dX8_fits_10 rfl ?_
    refine Z_goto (tgt := 16) dX8_fits_11 (by decide) ?_
    refine Z_wk [true, false] rfl ?_
    exact K _ (by rw [if_pos c2])
theorem bX8_fits_17 {d : Nat} {Q : Int → zMem → Prop} {μ : zMem} {x1 : Int} (P : (zIn x1) ∧ ((x1 ≤ 0 → (Q (if x1 ≤ 0 then (-1) else x1) μ)) ∧ (¬ (x1 ≤ 0) → (kX8_finds d x1 μ (fun (r6 : Int) (μ5 : zMem) => (zIn r6) ∧ ((r6 = (-1) → (zX8_fits_17 d Q (x1 + (-1)) μ5)) ∧ (¬ (r6 = (-1)) → (Q (if x1 ≤ 0 then (-1) else x1) μ5)))))))) : zX8_fits_17 d Q x1 μ := by
  refine Z_iload_n (pc' := 18) dX8_fits_17 rfl rfl ?_
  have h1 := P.1
  have P := P.2
  refine Z_if_le (tgt := 36) (pc' := 21) dX8_fits_18 (by decide) rfl h1 (fun c2 => ?_) (fun c2 => ?_)
  · have P := P.1 c2
    refine Z_iload_n (pc' := 37) dX8_fits_36 rfl rfl ?_
    have K : ∀ t4 : Int, t4 = (if x1 ≤ 0 then (-1) else x1) → Z SS none mX8_fits (d + 1) 0 0 (qI Q) 45 [some (.ref 54), some (vi x1)] [vi t4] μ 0 0 := by
      rintro _ rfl
      exact Z_ireturn dX8_fits_45 rfl (Nat.le_refl 0) (Nat.le_refl 0) P
    refine Z_if_le (tgt := 44) (pc' := 40) dX8_fits_37 (by decide) rfl h1 (fun c3 => ?_) (fun c3 => ?_)
    · refine Z_iconst (pc' := 45) dX8_fits_44 rfl ?_
      exact K _ (by rw [if_pos c3])
    · refine Z_iload_n (pc' := 41) dX8_fits_40 rfl rfl ?_
      refine Z_goto (tgt := 45) dX8_fits_41 (by decide) ?_
      exact K _ (by rw [if_neg c3])
  · have P := P.2 c2
    refine Z_aload_n (pc' := 22) dX8_fits_21 rfl rfl ?_
    refine Z_iload_n (pc' := 23) dX8_fits_22 rfl rfl ?_
    refine Z_callV0 (M' := mX8_finds) (pc' := 26) (st := []) [vi x1] dX8_fits_23 rfl vX8_finds lX8_141 (Or.inl dd_54) rfl (Nat.le_of_ble_eq_true rfl) (Nat.le_refl 0) (Nat.le_refl 0) ?_
    refine Cl_mono P ?_
    rintro _ μ5 ⟨r6, rfl, P⟩
    show Z SS none mX8_fits (d + 1) 0 0 (qI Q) 26 [some (.ref 54), some (vi x1)] [vi r6] μ5 0 0
    refine Z_iconst (pc' := 27) dX8_fits_26 rfl ?_
    have h7 := P.1
    have P := P.2
    refine Z_icmp_ne (tgt := 36) (pc' := 30) dX8_fits_27 (by decide) rfl h7 (z_lit rfl) (fun c8 => ?_) (fun c8 => ?_)
    · have P := P.2 c8
      refine Z_iload_n (pc' := 37) dX8_fits_36 rfl rfl ?_
      have K : ∀ t10 : Int, t10 = (if x1 ≤ 0 then (-1) else x1) → Z SS none mX8_fits (d + 1) 0 0 (qI Q) 45 [some (.ref 54), some (vi x1)] [vi t10] μ5 0 0 := by
        rintro _ rfl
        exact Z_ireturn dX8_fits_45 rfl (Nat.le_refl 0) (Nat.le_refl 0) P
      refine Z_if_le (tgt := 44) (pc' := 40) dX8_fits_37 (by decide) rfl h1 (fun c9 => ?_) (fun c9 => ?_)
      · refine Z_iconst (pc' := 45) dX8_fits_44 rfl ?_
        exact K _ (by rw [if_pos c9])
      · refine Z_iload_n (pc' := 41) dX8_fits_40 rfl rfl ?_
        refine Z_goto (tgt := 45) dX8_fits_41 (by decide) ?_
        exact K _ (by rw [if_neg c9])
    · have P := P.1 c8
      refine Z_iinc (pc' := 33) (lo' := [some (.ref 54), some (vi (x1 + (-1)))]) dX8_fits_30 rfl (by decide) rfl rfl ?_
      refine Z_goto (tgt := 17) dX8_fits_33 (by decide) ?_
      exact P
theorem bX8_cost {d : Nat} {Q : Int → zMem → Prop} {μ : zMem} {x1 : Int} (P : kX8_in d x1 1 12 μ (fun (r2 : Int) (μ1 : zMem) => (zIn r2) ∧ ((r2 = 0 → (Q (-3) μ1)) ∧ (¬ (r2 = 0) → (kX8_findsSpans d μ1 (fun μ5 : zMem => (zIn (gI μ5 55 31)) ∧ (((gI μ5 55 31) = 0 → (Q (-1) μ5)) ∧ (¬ ((gI μ5 55 31) = 0) → (kX8_finds d x1 μ5 (fun (r9 : Int) (μ8 : zMem) => Q r9 μ8)))))))))) : kX8_cost (d + 1) x1 μ Q := by
  refine Cl_of rfl (Nat.le_of_ble_eq_true rfl) rfl ?_
  show Z SS none mX8_cost (d + 1) 0 0 (qI Q) 0 [some (.ref 54), some (vi x1)] [] μ 0 0
  refine Z_iload_n (pc' := 1) dX8_cost_0 rfl rfl ?_
  refine Z_iconst (pc' := 2) dX8_cost_1 rfl ?_
  refine Z_bipush (pc' := 4) dX8_cost_2 rfl rfl ?_
  refine Z_callS0 (M' := mX8_in) (pc' := 7) (st := []) [vi x1, vi 1, vi 12] dX8_cost_4 rfl sX8_in lX8_53 rfl (Nat.le_of_ble_eq_true rfl) (Nat.le_refl 0) (Nat.le_refl 0) ?_
  refine Cl_mono P ?_
  rintro _ μ1 ⟨r2, rfl, P⟩
  show Z SS none mX8_cost (d + 1) 0 0 (qI Q) 7 [some (.ref 54), some (vi x1)] [vi r2] μ1 0 0
  have h3 := P.1
  have P := P.2
  refine Z_if_ne (tgt := 13) (pc' := 10) dX8_cost_7 (by decide) rfl h3 (fun c4 => ?_) (fun c4 => ?_)
  · have P := P.2 c4
    refine Z_aload_n (pc' := 14) dX8_cost_13 rfl rfl ?_
    refine Z_callV0 (M' := mX8_findsSpans) (pc' := 17) (st := []) [] dX8_cost_14 rfl vX8_findsSpans lX8_83 (Or.inl dd_54) rfl (Nat.le_of_ble_eq_true rfl) (Nat.le_refl 0) (Nat.le_refl 0) ?_
    refine Cl_mono P ?_
    rintro _ μ5 ⟨rfl, P⟩
    show Z SS none mX8_cost (d + 1) 0 0 (qI Q) 17 [some (.ref 54), some (vi x1)] [] μ5 0 0
    refine Z_aload_n (pc' := 18) dX8_cost_17 rfl rfl ?_
    refine Z_getR (q := 55) (pc' := 21) dX8_cost_18 rfl fX8_7 rfl (Or.inl dd_54) (Or.inl rr_54_0) ?_
    refine Z_bipush (pc' := 23) dX8_cost_21 rfl rfl ?_
    refine Z_iaload (pc' := 24) dX8_cost_23 rfl (Or.inl dd_55) (Nat.le_of_ble_eq_true rfl) (by decide) (by decide) ?_
    have h6 := P.1
    have P := P.2
    refine Z_if_ne (tgt := 31) (pc' := 27) dX8_cost_24 (by decide) rfl h6 (fun c7 => ?_) (fun c7 => ?_)
    · have P := P.2 c7
      refine Z_aload_n (pc' := 32) dX8_cost_31 rfl rfl ?_
      refine Z_iload_n (pc' := 33) dX8_cost_32 rfl rfl ?_
      refine Z_callV0 (M' := mX8_finds) (pc' := 36) (st := []) [vi x1] dX8_cost_33 rfl vX8_finds lX8_141 (Or.inl dd_54) rfl (Nat.le_of_ble_eq_true rfl) (Nat.le_refl 0) (Nat.le_refl 0) ?_
      refine Cl_mono P ?_
      rintro _ μ8 ⟨r9, rfl, P⟩
      show Z SS none mX8_cost (d + 1) 0 0 (qI Q) 36 [some (.ref 54), some (vi x1)] [vi r9] μ8 0 0
      exact Z_ireturn dX8_cost_36 rfl (Nat.le_refl 0) (Nat.le_refl 0) P
    · have P := P.1 c7
      refine Z_iconst (pc' := 28) dX8_cost_27 rfl ?_
      refine Z_goto (tgt := 36) dX8_cost_28 (by decide) ?_
      exact Z_ireturn dX8_cost_36 rfl (Nat.le_refl 0) (Nat.le_refl 0) P
  · have P := P.1 c4
    refine Z_bipush (pc' := 12) dX8_cost_10 rfl rfl ?_
    exact Z_ireturn dX8_cost_12 rfl (Nat.le_refl 0) (Nat.le_refl 0) P
theorem bX8_fit {d : Nat} {Q : Int → zMem → Prop} {μ : zMem}  (P : kX8_findsSpans d μ (fun μ1 : zMem => kX8_fits d μ1 (fun (r3 : Int) (μ2 : zMem) => Q r3 μ2))) : kX8_fit (d + 1) μ Q := by
  refine Cl_of rfl (Nat.le_of_ble_eq_true rfl) rfl ?_
  show Z SS none mX8_fit (d + 1) 0 0 (qI Q) 0 [some (.ref 54)] [] μ 0 0
  refine Z_aload_n (pc' := 1) dX8_fit_0 rfl rfl ?_
  refine Z_callV0 (M' := mX8_findsSpans) (pc' := 4) (st := []) [] dX8_fit_1 rfl vX8_findsSpans lX8_83 (Or.inl dd_54) rfl (Nat.le_of_ble_eq_true rfl) (Nat.le_refl 0) (Nat.le_refl 0) ?_
  refine Cl_mono P ?_
  rintro _ μ1 ⟨rfl, P⟩
  show Z SS none mX8_fit (d + 1) 0 0 (qI Q) 4 [some (.ref 54)] [] μ1 0 0
  refine Z_aload_n (pc' := 5) dX8_fit_4 rfl rfl ?_
  refine Z_callV0 (M' := mX8_fits) (pc' := 8) (st := []) [] dX8_fit_5 rfl vX8_fits lX8_144 (Or.inl dd_54) rfl (Nat.le_of_ble_eq_true rfl) (Nat.le_refl 0) (Nat.le_refl 0) ?_
  refine Cl_mono P ?_
  rintro _ μ2 ⟨r3, rfl, P⟩
  show Z SS none mX8_fit (d + 1) 0 0 (qI Q) 8 [some (.ref 54)] [vi r3] μ2 0 0
  exact Z_ireturn dX8_fit_8 rfl (Nat.le_refl 0) (Nat.le_refl 0) P
theorem bX8_allowed {d : Nat} {Q : Int → zMem → Prop} {μ : zMem} {x1 : Int} (P : kX8_in d x1 1 12 μ (fun (r2 : Int) (μ1 : zMem) => (zIn r2) ∧ ((r2 = 0 → (Q (-3) μ1)) ∧ (¬ (r2 = 0) → (kX8_findsSpans d μ1 (fun μ5 : zMem => (zIn (gI μ5 55 31)) ∧ (((gI μ5 55 31) = 0 → (Q (if (gI μ5 55 31) = 0 then 0 else (gI μ5 54 12)) μ5)) ∧ (¬ ((gI μ5 55 31) = 0) → (kX8_finds d x1 μ5 (fun (r11 : Int) (μ10 : zMem) => ((zIn (gI μ10 55 31))) ∧ (Q (if (gI μ10 55 31) = 0 then 0 else (gI μ10 54 12)) μ10))))))))))) : kX8_allowed (d + 1) x1 μ Q := by
  refine Cl_of rfl (Nat.le_of_ble_eq_true rfl) rfl ?_
  show Z SS none mX8_allowed (d + 1) 0 0 (qI Q) 0 [some (.ref 54), some (vi x1), none] [] μ 0 0
  refine Z_iload_n (pc' := 1) dX8_allowed_0 rfl rfl ?_
  refine Z_iconst (pc' := 2) dX8_allowed_1 rfl ?_
  refine Z_bipush (pc' := 4) dX8_allowed_2 rfl rfl ?_
  refine Z_callS0 (M' := mX8_in) (pc' := 7) (st := []) [vi x1, vi 1, vi 12] dX8_allowed_4 rfl sX8_in lX8_53 rfl (Nat.le_of_ble_eq_true rfl) (Nat.le_refl 0) (Nat.le_refl 0) ?_
  refine Cl_mono P ?_
  rintro _ μ1 ⟨r2, rfl, P⟩
  show Z SS none mX8_allowed (d + 1) 0 0 (qI Q) 7 [some (.ref 54), some (vi x1), none] [vi r2] μ1 0 0
  have h3 := P.1
  have P := P.2
  refine Z_if_ne (tgt := 13) (pc' := 10) dX8_allowed_7 (by decide) rfl h3 (fun c4 => ?_) (fun c4 => ?_)
  · have P := P.2 c4
    refine Z_aload_n (pc' := 14) dX8_allowed_13 rfl rfl ?_
    refine Z_callV0 (M' := mX8_findsSpans) (pc' := 17) (st := []) [] dX8_allowed_14 rfl vX8_findsSpans lX8_83 (Or.inl dd_54) rfl (Nat.le_of_ble_eq_true rfl) (Nat.le_refl 0) (Nat.le_refl 0) ?_
    refine Cl_mono P ?_
    rintro _ μ5 ⟨rfl, P⟩
    show Z SS none mX8_allowed (d + 1) 0 0 (qI Q) 17 [some (.ref 54), some (vi x1), none] [] μ5 0 0
    refine Z_aload_n (pc' := 18) dX8_allowed_17 rfl rfl ?_
    refine Z_getR (q := 55) (pc' := 21) dX8_allowed_18 rfl fX8_7 rfl (Or.inl dd_54) (Or.inl rr_54_0) ?_
    refine Z_bipush (pc' := 23) dX8_allowed_21 rfl rfl ?_
    refine Z_iaload (pc' := 24) dX8_allowed_23 rfl (Or.inl dd_55) (Nat.le_of_ble_eq_true rfl) (by decide) (by decide) ?_
    have h6 := P.1
    have P := P.2
    refine Z_if_ne (tgt := 31) (pc' := 27) dX8_allowed_24 (by decide) rfl h6 (fun c7 => ?_) (fun c7 => ?_)
    · have P := P.2 c7
      refine Z_aload_n (pc' := 32) dX8_allowed_31 rfl rfl ?_
      refine Z_iload_n (pc' := 33) dX8_allowed_32 rfl rfl ?_
      refine Z_callV0 (M' := mX8_finds) (pc' := 36) (st := []) [vi x1] dX8_allowed_33 rfl vX8_finds lX8_141 (Or.inl dd_54) rfl (Nat.le_of_ble_eq_true rfl) (Nat.le_refl 0) (Nat.le_refl 0) ?_
      refine Cl_mono P ?_
      rintro _ μ10 ⟨r11, rfl, P⟩
      show Z SS none mX8_allowed (d + 1) 0 0 (qI Q) 36 [some (.ref 54), some (vi x1), none] [vi r11] μ10 0 0
      refine Z_istore_n (pc' := 37) (lo' := [some (.ref 54), some (vi x1), some (vi r11)]) dX8_allowed_36 rfl (by decide) rfl ?_
      refine Z_aload_n (pc' := 38) dX8_allowed_37 rfl rfl ?_
      refine Z_getR (q := 55) (pc' := 41) dX8_allowed_38 rfl fX8_7 rfl (Or.inl dd_54) (Or.inl rr_54_0) ?_
      refine Z_bipush (pc' := 43) dX8_allowed_41 rfl rfl ?_
      refine Z_iaload (pc' := 44) dX8_allowed_43 rfl (Or.inl dd_55) (Nat.le_of_ble_eq_true rfl) (by decide) (by decide) ?_
      have K : ∀ t14 : Int, t14 = (if (gI μ10 55 31) = 0 then 0 else (gI μ10 54 12)) → Z SS none mX8_allowed (d + 1) 0 0 (qI Q) 55 [some (.ref 54), some (vi x1), some (vi r11)] [vi t14] μ10 0 0 := by
        rintro _ rfl
        have P := P.2
        exact Z_ireturn dX8_allowed_55 rfl (Nat.le_refl 0) (Nat.le_refl 0) P
      have G := P.1
      have h12 := G
      refine Z_if_ne (tgt := 51) (pc' := 47) dX8_allowed_44 (by decide) rfl h12 (fun c13 => ?_) (fun c13 => ?_)
      · refine Z_aload_n (pc' := 52) dX8_allowed_51 rfl rfl ?_
        refine Z_getI' (ji := 12) (pc' := 55) dX8_allowed_52 rfl rfl fX8_129 rfl (Or.inl dd_54) ?_
        exact K _ (by rw [if_neg c13])
      · refine Z_iconst (pc' := 48) dX8_allowed_47 rfl ?_
        refine Z_goto (tgt := 55) dX8_allowed_48 (by decide) ?_
        exact K _ (by rw [if_pos c13])
    · have P := P.1 c7
      refine Z_iconst (pc' := 28) dX8_allowed_27 rfl ?_
      refine Z_goto (tgt := 36) dX8_allowed_28 (by decide) ?_
      refine Z_istore_n (pc' := 37) (lo' := [some (.ref 54), some (vi x1), some (vi (-1))]) dX8_allowed_36 rfl (by decide) rfl ?_
      refine Z_aload_n (pc' := 38) dX8_allowed_37 rfl rfl ?_
      refine Z_getR (q := 55) (pc' := 41) dX8_allowed_38 rfl fX8_7 rfl (Or.inl dd_54) (Or.inl rr_54_0) ?_
      refine Z_bipush (pc' := 43) dX8_allowed_41 rfl rfl ?_
      refine Z_iaload (pc' := 44) dX8_allowed_43 rfl (Or.inl dd_55) (Nat.le_of_ble_eq_true rfl) (by decide) (by decide) ?_
      have K : ∀ t9 : Int, t9 = (if (gI μ5 55 31) = 0 then 0 else (gI μ5 54 12)) → Z SS none mX8_allowed (d + 1) 0 0 (qI Q) 55 [some (.ref 54), some (vi x1), some (vi (-1))] [vi t9] μ5 0 0 := by
        rintro _ rfl
        exact Z_ireturn dX8_allowed_55 rfl (Nat.le_refl 0) (Nat.le_refl 0) P
      refine Z_if_ne (tgt := 51) (pc' := 47) dX8_allowed_44 (by decide) rfl h6 (fun c8 => ?_) (fun c8 => ?_)
      · refine Z_aload_n (pc' := 52) dX8_allowed_51 rfl rfl ?_
        refine Z_getI' (ji := 12) (pc' := 55) dX8_allowed_52 rfl rfl fX8_129 rfl (Or.inl dd_54) ?_
        exact K _ (by rw [if_neg c8])
      · refine Z_iconst (pc' := 48) dX8_allowed_47 rfl ?_
        refine Z_goto (tgt := 55) dX8_allowed_48 (by decide) ?_
        exact K _ (by rw [if_pos c8])
  · have P := P.1 c4
    refine Z_bipush (pc' := 12) dX8_allowed_10 rfl rfl ?_
    exact Z_ireturn dX8_allowed_12 rfl (Nat.le_refl 0) (Nat.le_refl 0) P
abbrev zX8_take_33 (d : Nat) (Q : Int → zMem → Prop) (s0 : Int) (μ : zMem) : Prop := Z SS none mX8_take (d + 1) 0 0 (qI Q) 33 [some (.ref 54), none, none, none, none] [vi s0] μ 0 0
abbrev zX8_take_169 (d : Nat) (Q : Int → zMem → Prop) (x3 : Int) (x4 : Int) (μ : zMem) : Prop := Z SS none mX8_take (d + 1) 0 0 (qI Q) 169 [some (.ref 54), none, none, some (vi x3), some (vi x4)] [] μ 0 0
abbrev zX8_take_207 (d : Nat) (Q : Int → zMem → Prop) (x3 : Int) (x4 : Int) (μ : zMem) : Prop := Z SS none mX8_take (d + 1) 0 0 (qI Q) 207 [some (.ref 54), none, none, some (vi x3), some (vi x4)] [] μ 0 0
theorem bX8_take {d : Nat} {Q : Int → zMem → Prop} {μ : zMem} {x1 : Int} (P : kX8_in d x1 0 12 μ (fun (r2 : Int) (μ1 : zMem) => (zIn r2) ∧ ((r2 = 0 → (Q (-3) μ1)) ∧ (¬ (r2 = 0) → (kX8_records d μ1 (fun μ5 : zMem => kX8_findsSpans d μ5 (fun μ6 : zMem => (zIn x1) ∧ ((x1 = 0 → (kX8_fits d μ6 (fun (r10 : Int) (μ9 : zMem) => zX8_take_33 d Q r10 μ9))) ∧ (¬ (x1 = 0) → (zX8_take_33 d Q x1 μ6)))))))))) : kX8_take (d + 1) x1 μ Q := by
  refine Cl_of rfl (Nat.le_of_ble_eq_true rfl) rfl ?_
  show Z SS none mX8_take (d + 1) 0 0 (qI Q) 0 [some (.ref 54), some (vi x1), none, none, none] [] μ 0 0
  refine Z_iload_n (pc' := 1) dX8_take_0 rfl rfl ?_
  refine Z_iconst (pc' := 2) dX8_take_1 rfl ?_
  refine Z_bipush (pc' := 4) dX8_take_2 rfl rfl ?_
  refine Z_callS0 (M' := mX8_in) (pc' := 7) (st := []) [vi x1, vi 0, vi 12] dX8_take_4 rfl sX8_in lX8_53 rfl (Nat.le_of_ble_eq_true rfl) (Nat.le_refl 0) (Nat.le_refl 0) ?_
  refine Cl_mono P ?_
  rintro _ μ1 ⟨r2, rfl, P⟩
  show Z SS none mX8_take (d + 1) 0 0 (qI Q) 7 [some (.ref 54), some (vi x1), none, none, none] [vi r2] μ1 0 0
  have h3 := P.1
  have P := P.2
  refine Z_if_ne (tgt := 13) (pc' := 10) dX8_take_7 (by decide) rfl h3 (fun c4 => ?_) (fun c4 => ?_)
  · have P := P.2 c4
    refine Z_aload_n (pc' := 14) dX8_take_13 rfl rfl ?_
    refine Z_callV0 (M' := mX8_records) (pc' := 17) (st := []) [] dX8_take_14 rfl vX8_records lX8_68 (Or.inl dd_54) rfl (Nat.le_of_ble_eq_true rfl) (Nat.le_refl 0) (Nat.le_refl 0) ?_
    refine Cl_mono P ?_
    rintro _ μ5 ⟨rfl, P⟩
    show Z SS none mX8_take (d + 1) 0 0 (qI Q) 17 [some (.ref 54), some (vi x1), none, none, none] [] μ5 0 0
    refine Z_aload_n (pc' := 18) dX8_take_17 rfl rfl ?_
    refine Z_callV0 (M' := mX8_findsSpans) (pc' := 21) (st := []) [] dX8_take_18 rfl vX8_findsSpans lX8_83 (Or.inl dd_54) rfl (Nat.le_of_ble_eq_true rfl) (Nat.le_refl 0) (Nat.le_refl 0) ?_
    refine Cl_mono P ?_
    rintro _ μ6 ⟨rfl, P⟩
    show Z SS none mX8_take (d + 1) 0 0 (qI Q) 21 [some (.ref 54), some (vi x1), none, none, none] [] μ6 0 0
    refine Z_iload_n (pc' := 22) dX8_take_21 rfl rfl ?_
    have h7 := P.1
    have P := P.2
    refine Z_if_ne (tgt := 32) (pc' := 25) dX8_take_22 (by decide) rfl h7 (fun c8 => ?_) (fun c8 => ?_)
    · have P := P.2 c8
      refine Z_iload_n (pc' := 33) dX8_take_32 rfl rfl ?_
      refine Z_wk [true, false, true, true, true] rfl ?_
      exact P
    · have P := P.1 c8
      refine Z_aload_n (pc' := 26) dX8_take_25 rfl rfl ?_
      refine Z_callV0 (M' := mX8_fits) (pc' := 29) (st := []) [] dX8_take_26 rfl vX8_fits lX8_144 (Or.inl dd_54) rfl (Nat.le_of_ble_eq_true rfl) (Nat.le_refl 0) (Nat.le_refl 0) ?_
      refine Cl_mono P ?_
      rintro _ μ9 ⟨r10, rfl, P⟩
      show Z SS none mX8_take (d + 1) 0 0 (qI Q) 29 [some (.ref 54), some (vi x1), none, none, none] [vi r10] μ9 0 0
      refine Z_goto (tgt := 33) dX8_take_29 (by decide) ?_
      refine Z_wk [true, false, true, true, true] rfl ?_
      exact P
  · have P := P.1 c4
    refine Z_bipush (pc' := 12) dX8_take_10 rfl rfl ?_
    exact Z_ireturn dX8_take_12 rfl (Nat.le_refl 0) (Nat.le_refl 0) P
theorem bX8_take_33 {d : Nat} {Q : Int → zMem → Prop} {μ : zMem} {s0 : Int} (P : (zIn s0) ∧ ((s0 = (-1) → (Q (-1) μ)) ∧ (¬ (s0 = (-1)) → ((zIn (gI μ 55 31)) ∧ (((gI μ 55 31) = 0 → (Q (-1) μ)) ∧ (¬ ((gI μ 55 31) = 0) → (kX8_finds d s0 μ (fun (r8 : Int) (μ7 : zMem) => (zIn r8) ∧ ((r8 = (-1) → (Q (-1) μ7)) ∧ (¬ (r8 = (-1)) → (kX8_lays d s0 (gI μ7 54 13) μ7 (fun (r12 : Int) (μ11 : zMem) => kX8_chains d μ11 (fun μ13 : zMem => (0 ≤ ((7 * ((gI (sI (sI (sI (sI (sI μ13 55 82 1) 55 83 s0) 55 84 (gI (sI (sI μ13 55 82 1) 55 83 s0) 54 7)) 55 85 r12) 55 86 (gI (sI (sI (sI (sI μ13 55 82 1) 55 83 s0) 55 84 (gI (sI (sI μ13 55 82 1) 55 83 s0) 54 7)) 55 85 r12) 54 10)) 54 7) - 1)) + 2)) ∧ ((((7 * ((gI (sI (sI (sI (sI (sI μ13 55 82 1) 55 83 s0) 55 84 (gI (sI (sI μ13 55 82 1) 55 83 s0) 54 7)) 55 85 r12) 55 86 (gI (sI (sI (sI (sI μ13 55 82 1) 55 83 s0) 55 84 (gI (sI (sI μ13 55 82 1) 55 83 s0) 54 7)) 55 85 r12) 54 10)) 54 7) - 1)) + 2) < 98) ∧ ((0 ≤ ((7 * ((gI (sI (sI (sI (sI (sI μ13 55 82 1) 55 83 s0) 55 84 (gI (sI (sI μ13 55 82 1) 55 83 s0) 54 7)) 55 85 r12) 55 86 (gI (sI (sI (sI (sI μ13 55 82 1) 55 83 s0) 55 84 (gI (sI (sI μ13 55 82 1) 55 83 s0) 54 7)) 55 85 r12) 54 10)) 54 7) - 1)) + 3)) ∧ ((((7 * ((gI (sI (sI (sI (sI (sI μ13 55 82 1) 55 83 s0) 55 84 (gI (sI (sI μ13 55 82 1) 55 83 s0) 54 7)) 55 85 r12) 55 86 (gI (sI (sI (sI (sI μ13 55 82 1) 55 83 s0) 55 84 (gI (sI (sI μ13 55 82 1) 55 83 s0) 54 7)) 55 85 r12) 54 10)) 54 7) - 1)) + 3) < 98) ∧ (zX8_take_169 d Q r12 0 (sI (sI (sI (sI (sI (sI μ13 55 82 1) 55 83 s0) 55 84 (gI (sI (sI μ13 55 82 1) 55 83 s0) 54 7)) 55 85 r12) 55 86 (gI (sI (sI (sI (sI μ13 55 82 1) 55 83 s0) 55 84 (gI (sI (sI μ13 55 82 1) 55 83 s0) 54 7)) 55 85 r12) 54 10)) 55 87 ((gI (sI (sI (sI (sI (sI μ13 55 82 1) 55 83 s0) 55 84 (gI (sI (sI μ13 55 82 1) 55 83 s0) 54 7)) 55 85 r12) 55 86 (gI (sI (sI (sI (sI μ13 55 82 1) 55 83 s0) 55 84 (gI (sI (sI μ13 55 82 1) 55 83 s0) 54 7)) 55 85 r12) 54 10)) 59 ((7 * ((gI (sI (sI (sI (sI (sI μ13 55 82 1) 55 83 s0) 55 84 (gI (sI (sI μ13 55 82 1) 55 83 s0) 54 7)) 55 85 r12) 55 86 (gI (sI (sI (sI (sI μ13 55 82 1) 55 83 s0) 55 84 (gI (sI (sI μ13 55 82 1) 55 83 s0) 54 7)) 55 85 r12) 54 10)) 54 7) - 1)) + 2)) + (gI (sI (sI (sI (sI (sI μ13 55 82 1) 55 83 s0) 55 84 (gI (sI (sI μ13 55 82 1) 55 83 s0) 54 7)) 55 85 r12) 55 86 (gI (sI (sI (sI (sI μ13 55 82 1) 55 83 s0) 55 84 (gI (sI (sI μ13 55 82 1) 55 83 s0) 54 7)) 55 85 r12) 54 10)) 59 ((7 * ((gI (sI (sI (sI (sI (sI μ13 55 82 1) 55 83 s0) 55 84 (gI (sI (sI μ13 55 82 1) 55 83 s0) 54 7)) 55 85 r12) 55 86 (gI (sI (sI (sI (sI μ13 55 82 1) 55 83 s0) 55 84 (gI (sI (sI μ13 55 82 1) 55 83 s0) 54 7)) 55 85 r12) 54 10)) 54 7) - 1)) + 3))))))))))))))))))))) : zX8_take_33 d Q s0 μ := by
  refine Z_istore_n (pc' := 34) (lo' := [some (.ref 54), none, some (vi s0), none, none]) dX8_take_33 rfl (by decide) rfl ?_
  refine Z_iload_n (pc' := 35) dX8_take_34 rfl rfl ?_
  refine Z_iconst (pc' := 36) dX8_take_35 rfl ?_
  have h1 := P.1
  have P := P.2
  refine Z_icmp_eq (tgt := 49) (pc' := 39) dX8_take_36 (by decide) rfl h1 (z_lit rfl) (fun c2 => ?_) (fun c2 => ?_)
  · have P := P.1 c2
    refine Z_iconst (pc' := 50) dX8_take_49 rfl ?_
    refine Z_goto (tgt := 58) dX8_take_50 (by decide) ?_
    refine Z_istore_n (pc' := 59) (lo' := [some (.ref 54), none, some (vi s0), some (vi (-1)), none]) dX8_take_58 rfl (by decide) rfl ?_
    refine Z_iload_n (pc' := 60) dX8_take_59 rfl rfl ?_
    refine Z_iconst (pc' := 61) dX8_take_60 rfl ?_
    refine Z_icmp_ne (tgt := 66) (pc' := 64) dX8_take_61 (by decide) rfl (z_lit rfl) (z_lit rfl) (fun c3 => ?_) (fun c3 => ?_)
    · exact absurd c3 (by decide)
    · refine Z_iconst (pc' := 65) dX8_take_64 rfl ?_
      exact Z_ireturn dX8_take_65 rfl (Nat.le_refl 0) (Nat.le_refl 0) P
  · have P := P.2 c2
    refine Z_aload_n (pc' := 40) dX8_take_39 rfl rfl ?_
    refine Z_getR (q := 55) (pc' := 43) dX8_take_40 rfl fX8_7 rfl (Or.inl dd_54) (Or.inl rr_54_0) ?_
    refine Z_bipush (pc' := 45) dX8_take_43 rfl rfl ?_
    refine Z_iaload (pc' := 46) dX8_take_45 rfl (Or.inl dd_55) (Nat.le_of_ble_eq_true rfl) (by decide) (by decide) ?_
    have h4 := P.1
    have P := P.2
    refine Z_if_ne (tgt := 53) (pc' := 49) dX8_take_46 (by decide) rfl h4 (fun c5 => ?_) (fun c5 => ?_)
    · have P := P.2 c5
      refine Z_aload_n (pc' := 54) dX8_take_53 rfl rfl ?_
      refine Z_iload_n (pc' := 55) dX8_take_54 rfl rfl ?_
      refine Z_callV0 (M' := mX8_finds) (pc' := 58) (st := []) [vi s0] dX8_take_55 rfl vX8_finds lX8_141 (Or.inl dd_54) rfl (Nat.le_of_ble_eq_true rfl) (Nat.le_refl 0) (Nat.le_refl 0) ?_
      refine Cl_mono P ?_
      rintro _ μ7 ⟨r8, rfl, P⟩
      show Z SS none mX8_take (d + 1) 0 0 (qI Q) 58 [some (.ref 54), none, some (vi s0), none, none] [vi r8] μ7 0 0
      refine Z_istore_n (pc' := 59) (lo' := [some (.ref 54), none, some (vi s0), some (vi r8), none]) dX8_take_58 rfl (by decide) rfl ?_
      refine Z_iload_n (pc' := 60) dX8_take_59 rfl rfl ?_
      refine Z_iconst (pc' := 61) dX8_take_60 rfl ?_
      have h9 := P.1
      have P := P.2
      refine Z_icmp_ne (tgt := 66) (pc' := 64) dX8_take_61 (by decide) rfl h9 (z_lit rfl) (fun c10 => ?_) (fun c10 => ?_)
      · have P := P.2 c10
        refine Z_aload_n (pc' := 67) dX8_take_66 rfl rfl ?_
        refine Z_iload_n (pc' := 68) dX8_take_67 rfl rfl ?_
        refine Z_aload_n (pc' := 69) dX8_take_68 rfl rfl ?_
        refine Z_getI' (ji := 13) (pc' := 72) dX8_take_69 rfl rfl fX8_132 rfl (Or.inl dd_54) ?_
        refine Z_callV0 (M' := mX8_lays) (pc' := 75) (st := []) [vi s0, vi (gI μ7 54 13)] dX8_take_72 rfl vX8_lays lX8_138 (Or.inl dd_54) rfl (Nat.le_of_ble_eq_true rfl) (Nat.le_refl 0) (Nat.le_refl 0) ?_
        refine Cl_mono P ?_
        rintro _ μ11 ⟨r12, rfl, P⟩
        show Z SS none mX8_take (d + 1) 0 0 (qI Q) 75 [some (.ref 54), none, some (vi s0), some (vi r8), none] [vi r12] μ11 0 0
        refine Z_istore_n (pc' := 76) (lo' := [some (.ref 54), none, some (vi s0), some (vi r12), none]) dX8_take_75 rfl (by decide) rfl ?_
        refine Z_aload_n (pc' := 77) dX8_take_76 rfl rfl ?_
        refine Z_callV0 (M' := mX8_chains) (pc' := 80) (st := []) [] dX8_take_77 rfl vX8_chains lX8_147 (Or.inl dd_54) rfl (Nat.le_of_ble_eq_true rfl) (Nat.le_refl 0) (Nat.le_refl 0) ?_
        refine Cl_mono P ?_
        rintro _ μ13 ⟨rfl, P⟩
        show Z SS none mX8_take (d + 1) 0 0 (qI Q) 80 [some (.ref 54), none, some (vi s0), some (vi r12), none] [] μ13 0 0
        refine Z_aload_n (pc' := 81) dX8_take_80 rfl rfl ?_
        refine Z_getR (q := 55) (pc' := 84) dX8_take_81 rfl fX8_7 rfl (Or.inl dd_54) (Or.inl rr_54_0) ?_
        refine Z_bipush (pc' := 86) dX8_take_84 rfl rfl ?_
        refine Z_iconst (pc' := 87) dX8_take_86 rfl ?_
        refine Z_iastore (pc' := 88) dX8_take_87 rfl (Or.inl dd_55) (Nat.le_of_ble_eq_true rfl) (by decide) (by decide) ?_
        refine Z_aload_n (pc' := 89) dX8_take_88 rfl rfl ?_
        refine Z_getR (q := 55) (pc' := 92) dX8_take_89 rfl fX8_7 rfl (Or.inl dd_54) (Or.inl rr_54_0) ?_
        refine Z_bipush (pc' := 94) dX8_take_92 rfl rfl ?_
        refine Z_iload_n (pc' := 95) dX8_take_94 rfl rfl ?_
        refine Z_iastore (pc' := 96) dX8_take_95 rfl (Or.inl dd_55) (Nat.le_of_ble_eq_true rfl) (by decide) (by decide) ?_
        refine Z_aload_n (pc' := 97) dX8_take_96 rfl rfl ?_
        refine Z_getR (q := 55) (pc' := 100) dX8_take_97 rfl fX8_7 rfl (Or.inl dd_54) (Or.inl rr_54_0) ?_
        refine Z_bipush (pc' := 102) dX8_take_100 rfl rfl ?_
        refine Z_aload_n (pc' := 103) dX8_take_102 rfl rfl ?_
        refine Z_getI' (ji := 7) (pc' := 106) dX8_take_103 rfl rfl fX8_99 rfl (Or.inl dd_54) ?_
        refine Z_iastore (pc' := 107) dX8_take_106 rfl (Or.inl dd_55) (Nat.le_of_ble_eq_true rfl) (by decide) (by decide) ?_
        refine Z_aload_n (pc' := 108) dX8_take_107 rfl rfl ?_
        refine Z_getR (q := 55) (pc' := 111) dX8_take_108 rfl fX8_7 rfl (Or.inl dd_54) (Or.inl rr_54_0) ?_
        refine Z_bipush (pc' := 113) dX8_take_111 rfl rfl ?_
        refine Z_iload_n (pc' := 114) dX8_take_113 rfl rfl ?_
        refine Z_iastore (pc' := 115) dX8_take_114 rfl (Or.inl dd_55) (Nat.le_of_ble_eq_true rfl) (by decide) (by decide) ?_
        refine Z_aload_n (pc' := 116) dX8_take_115 rfl rfl ?_
        refine Z_getR (q := 55) (pc' := 119) dX8_take_116 rfl fX8_7 rfl (Or.inl dd_54) (Or.inl rr_54_0) ?_
        refine Z_bipush (pc' := 121) dX8_take_119 rfl rfl ?_
        refine Z_aload_n (pc' := 122) dX8_take_121 rfl rfl ?_
        refine Z_getI' (ji := 10) (pc' := 125) dX8_take_122 rfl rfl fX8_102 rfl (Or.inl dd_54) ?_
        refine Z_iastore (pc' := 126) dX8_take_125 rfl (Or.inl dd_55) (Nat.le_of_ble_eq_true rfl) (by decide) (by decide) ?_
        refine Z_aload_n (pc' := 127) dX8_take_126 rfl rfl ?_
        refine Z_getR (q := 55) (pc' := 130) dX8_take_127 rfl fX8_7 rfl (Or.inl dd_54) (Or.inl rr_54_0) ?_
        refine Z_bipush (pc' := 132) dX8_take_130 rfl rfl ?_
        refine Z_aload_n (pc' := 133) dX8_take_132 rfl rfl ?_
        refine Z_getR (q := 59) (pc' := 136) dX8_take_133 rfl fX8_23 rfl (Or.inl dd_54) (Or.inl rr_54_5) ?_
        refine Z_bipush (pc' := 138) dX8_take_136 rfl rfl ?_
        refine Z_aload_n (pc' := 139) dX8_take_138 rfl rfl ?_
        refine Z_getI' (ji := 7) (pc' := 142) dX8_take_139 rfl rfl fX8_99 rfl (Or.inl dd_54) ?_
        refine Z_iconst (pc' := 143) dX8_take_142 rfl ?_
        refine Z_isub (pc' := 144) dX8_take_143 rfl ?_
        refine Z_imul (pc' := 145) dX8_take_144 rfl ?_
        refine Z_iconst (pc' := 146) dX8_take_145 rfl ?_
        refine Z_iadd (pc' := 147) dX8_take_146 rfl ?_
        have h14 := P.1
        have P := P.2
        have h15 := P.1
        have P := P.2
        refine Z_iaload (pc' := 148) dX8_take_147 rfl (Or.inl dd_59) (Nat.le_of_ble_eq_true rfl) h14 h15 ?_
        refine Z_aload_n (pc' := 149) dX8_take_148 rfl rfl ?_
        refine Z_getR (q := 59) (pc' := 152) dX8_take_149 rfl fX8_23 rfl (Or.inl dd_54) (Or.inl rr_54_5) ?_
        refine Z_bipush (pc' := 154) dX8_take_152 rfl rfl ?_
        refine Z_aload_n (pc' := 155) dX8_take_154 rfl rfl ?_
        refine Z_getI' (ji := 7) (pc' := 158) dX8_take_155 rfl rfl fX8_99 rfl (Or.inl dd_54) ?_
        refine Z_iconst (pc' := 159) dX8_take_158 rfl ?_
        refine Z_isub (pc' := 160) dX8_take_159 rfl ?_
        refine Z_imul (pc' := 161) dX8_take_160 rfl ?_
        refine Z_iconst (pc' := 162) dX8_take_161 rfl ?_
        refine Z_iadd (pc' := 163) dX8_take_162 rfl ?_
        have h16 := P.1
        have P := P.2
        have h17 := P.1
        have P := P.2
        refine Z_iaload (pc' := 164) dX8_take_163 rfl (Or.inl dd_59) (Nat.le_of_ble_eq_true rfl) h16 h17 ?_
        refine Z_iadd (pc' := 165) dX8_take_164 rfl ?_
        refine Z_iastore (pc' := 166) dX8_take_165 rfl (Or.inl dd_55) (Nat.le_of_ble_eq_true rfl) (by decide) (by decide) ?_
        refine Z_iconst (pc' := 167) dX8_take_166 rfl ?_
        refine Z_istore (pc' := 169) (lo' := [some (.ref 54), none, some (vi s0), some (vi r12), some (vi 0)]) dX8_take_167 rfl (by decide) rfl ?_
        refine Z_wk [true, true, false, true, true] rfl ?_
        exact P
      · have P := P.1 c10
        refine Z_iconst (pc' := 65) dX8_take_64 rfl ?_
        exact Z_ireturn dX8_take_65 rfl (Nat.le_refl 0) (Nat.le_refl 0) P
    · have P := P.1 c5
      refine Z_iconst (pc' := 50) dX8_take_49 rfl ?_
      refine Z_goto (tgt := 58) dX8_take_50 (by decide) ?_
      refine Z_istore_n (pc' := 59) (lo' := [some (.ref 54), none, some (vi s0), some (vi (-1)), none]) dX8_take_58 rfl (by decide) rfl ?_
      refine Z_iload_n (pc' := 60) dX8_take_59 rfl rfl ?_
      refine Z_iconst (pc' := 61) dX8_take_60 rfl ?_
      refine Z_icmp_ne (tgt := 66) (pc' := 64) dX8_take_61 (by decide) rfl (z_lit rfl) (z_lit rfl) (fun c6 => ?_) (fun c6 => ?_)
      · exact absurd c6 (by decide)
      · refine Z_iconst (pc' := 65) dX8_take_64 rfl ?_
        exact Z_ireturn dX8_take_65 rfl (Nat.le_refl 0) (Nat.le_refl 0) P
theorem bX8_take_169 {d : Nat} {Q : Int → zMem → Prop} {μ : zMem} {x3 : Int} {x4 : Int} (P : (zIn x4) ∧ ((zIn (7 * (gI μ 54 7))) ∧ (((7 * (gI μ 54 7)) ≤ x4 → (zX8_take_207 d Q x3 0 μ)) ∧ (¬ ((7 * (gI μ 54 7)) ≤ x4) → ((0 ≤ x4) ∧ ((x4 < 98) ∧ ((0 ≤ (88 + x4)) ∧ (((88 + x4) < 1285) ∧ (zX8_take_169 d Q x3 (x4 + 1) (sI μ 55 (88 + x4) (gI μ 59 x4))))))))))) : zX8_take_169 d Q x3 x4 μ := by
  refine Z_iload (pc' := 171) dX8_take_169 rfl rfl ?_
  refine Z_bipush (pc' := 173) dX8_take_171 rfl rfl ?_
  refine Z_aload_n (pc' := 174) dX8_take_173 rfl rfl ?_
  refine Z_getI' (ji := 7) (pc' := 177) dX8_take_174 rfl rfl fX8_99 rfl (Or.inl dd_54) ?_
  refine Z_imul (pc' := 178) dX8_take_177 rfl ?_
  have h1 := P.1
  have P := P.2
  have h2 := P.1
  have P := P.2
  refine Z_icmp_ge (tgt := 204) (pc' := 181) dX8_take_178 (by decide) rfl h1 h2 (fun c3 => ?_) (fun c3 => ?_)
  · have P := P.1 c3
    refine Z_iconst (pc' := 205) dX8_take_204 rfl ?_
    refine Z_istore (pc' := 207) (lo' := [some (.ref 54), none, none, some (vi x3), some (vi 0)]) dX8_take_205 rfl (by decide) rfl ?_
    exact P
  · have P := P.2 c3
    refine Z_aload_n (pc' := 182) dX8_take_181 rfl rfl ?_
    refine Z_getR (q := 55) (pc' := 185) dX8_take_182 rfl fX8_7 rfl (Or.inl dd_54) (Or.inl rr_54_0) ?_
    refine Z_bipush (pc' := 187) dX8_take_185 rfl rfl ?_
    refine Z_iload (pc' := 189) dX8_take_187 rfl rfl ?_
    refine Z_iadd (pc' := 190) dX8_take_189 rfl ?_
    refine Z_aload_n (pc' := 191) dX8_take_190 rfl rfl ?_
    refine Z_getR (q := 59) (pc' := 194) dX8_take_191 rfl fX8_23 rfl (Or.inl dd_54) (Or.inl rr_54_5) ?_
    refine Z_iload (pc' := 196) dX8_take_194 rfl rfl ?_
    have h4 := P.1
    have P := P.2
    have h5 := P.1
    have P := P.2
    refine Z_iaload (pc' := 197) dX8_take_196 rfl (Or.inl dd_59) (Nat.le_of_ble_eq_true rfl) h4 h5 ?_
    have h6 := P.1
    have P := P.2
    have h7 := P.1
    have P := P.2
    refine Z_iastore (pc' := 198) dX8_take_197 rfl (Or.inl dd_55) (Nat.le_of_ble_eq_true rfl) h6 h7 ?_
    refine Z_iinc (pc' := 201) (lo' := [some (.ref 54), none, none, some (vi x3), some (vi (x4 + 1))]) dX8_take_198 rfl (by decide) rfl rfl ?_
    refine Z_goto (tgt := 169) dX8_take_201 (by decide) ?_
    exact P
theorem bX8_take_207 {d : Nat} {Q : Int → zMem → Prop} {μ : zMem} {x3 : Int} {x4 : Int} (P : (zIn x4) ∧ ((zIn (5 * (gI μ 55 31))) ∧ (((5 * (gI μ 55 31)) ≤ x4 → (Q x3 (sI μ 55 256 (gI μ 55 31)))) ∧ (¬ ((5 * (gI μ 55 31)) ≤ x4) → ((0 ≤ x4) ∧ ((x4 < 70) ∧ ((0 ≤ (186 + x4)) ∧ (((186 + x4) < 1285) ∧ (zX8_take_207 d Q x3 (x4 + 1) (sI μ 55 (186 + x4) (gI μ 60 x4))))))))))) : zX8_take_207 d Q x3 x4 μ := by
  refine Z_iload (pc' := 209) dX8_take_207 rfl rfl ?_
  refine Z_iconst (pc' := 210) dX8_take_209 rfl ?_
  refine Z_aload_n (pc' := 211) dX8_take_210 rfl rfl ?_
  refine Z_getR (q := 55) (pc' := 214) dX8_take_211 rfl fX8_7 rfl (Or.inl dd_54) (Or.inl rr_54_0) ?_
  refine Z_bipush (pc' := 216) dX8_take_214 rfl rfl ?_
  refine Z_iaload (pc' := 217) dX8_take_216 rfl (Or.inl dd_55) (Nat.le_of_ble_eq_true rfl) (by decide) (by decide) ?_
  refine Z_imul (pc' := 218) dX8_take_217 rfl ?_
  have h1 := P.1
  have P := P.2
  have h2 := P.1
  have P := P.2
  refine Z_icmp_ge (tgt := 245) (pc' := 221) dX8_take_218 (by decide) rfl h1 h2 (fun c3 => ?_) (fun c3 => ?_)
  · have P := P.1 c3
    refine Z_aload_n (pc' := 246) dX8_take_245 rfl rfl ?_
    refine Z_getR (q := 55) (pc' := 249) dX8_take_246 rfl fX8_7 rfl (Or.inl dd_54) (Or.inl rr_54_0) ?_
    refine Z_sipush (pc' := 252) dX8_take_249 rfl rfl ?_
    refine Z_aload_n (pc' := 253) dX8_take_252 rfl rfl ?_
    refine Z_getR (q := 55) (pc' := 256) dX8_take_253 rfl fX8_7 rfl (Or.inl dd_54) (Or.inl rr_54_0) ?_
    refine Z_bipush (pc' := 258) dX8_take_256 rfl rfl ?_
    refine Z_iaload (pc' := 259) dX8_take_258 rfl (Or.inl dd_55) (Nat.le_of_ble_eq_true rfl) (by decide) (by decide) ?_
    refine Z_iastore (pc' := 260) dX8_take_259 rfl (Or.inl dd_55) (Nat.le_of_ble_eq_true rfl) (by decide) (by decide) ?_
    refine Z_iload_n (pc' := 261) dX8_take_260 rfl rfl ?_
    exact Z_ireturn dX8_take_261 rfl (Nat.le_refl 0) (Nat.le_refl 0) P
  · have P := P.2 c3
    refine Z_aload_n (pc' := 222) dX8_take_221 rfl rfl ?_
    refine Z_getR (q := 55) (pc' := 225) dX8_take_222 rfl fX8_7 rfl (Or.inl dd_54) (Or.inl rr_54_0) ?_
    refine Z_sipush (pc' := 228) dX8_take_225 rfl rfl ?_
    refine Z_iload (pc' := 230) dX8_take_228 rfl rfl ?_
    refine Z_iadd (pc' := 231) dX8_take_230 rfl ?_
    refine Z_aload_n (pc' := 232) dX8_take_231 rfl rfl ?_
    refine Z_getR (q := 60) (pc' := 235) dX8_take_232 rfl fX8_26 rfl (Or.inl dd_54) (Or.inl rr_54_6) ?_
    refine Z_iload (pc' := 237) dX8_take_235 rfl rfl ?_
    have h4 := P.1
    have P := P.2
    have h5 := P.1
    have P := P.2
    refine Z_iaload (pc' := 238) dX8_take_237 rfl (Or.inl dd_60) (Nat.le_of_ble_eq_true rfl) h4 h5 ?_
    have h6 := P.1
    have P := P.2
    have h7 := P.1
    have P := P.2
    refine Z_iastore (pc' := 239) dX8_take_238 rfl (Or.inl dd_55) (Nat.le_of_ble_eq_true rfl) h6 h7 ?_
    refine Z_iinc (pc' := 242) (lo' := [some (.ref 54), none, none, some (vi x3), some (vi (x4 + 1))]) dX8_take_239 rfl (by decide) rfl rfl ?_
    refine Z_goto (tgt := 207) dX8_take_242 (by decide) ?_
    exact P
abbrev zX8_widestStep_52 (d : Nat) (Q : Int → zMem → Prop) (x1 : Int) (x2 : Int) (x3 : Int) (x4 : Int) (μ : zMem) : Prop := Z SS none mX8_widestStep (d + 1) 0 0 (qI Q) 52 [some (.ref 54), some (vi x1), some (vi x2), some (vi x3), some (vi x4)] [] μ 0 0
theorem bX8_widestStep {d : Nat} {Q : Int → zMem → Prop} {μ : zMem} {x1 : Int} (P : kX8_in d x1 1 12 μ (fun (r2 : Int) (μ1 : zMem) => (zIn r2) ∧ ((r2 = 0 → (Q (-3) μ1)) ∧ (¬ (r2 = 0) → (kX8_findsSpans d μ1 (fun μ5 : zMem => ((zIn (gI μ5 55 31))) ∧ (zX8_widestStep_52 d Q x1 (gI μ5 55 74) (if (gI μ5 55 31) = 0 then (-1) else 4) (if ((if (gI μ5 55 31) = 0 then (-1) else 4) : Int) < 0 then 0 else 1) μ5))))))) : kX8_widestStep (d + 1) x1 μ Q := by
  refine Cl_of rfl (Nat.le_of_ble_eq_true rfl) rfl ?_
  show Z SS none mX8_widestStep (d + 1) 0 0 (qI Q) 0 [some (.ref 54), some (vi x1), none, none, none] [] μ 0 0
  refine Z_iload_n (pc' := 1) dX8_widestStep_0 rfl rfl ?_
  refine Z_iconst (pc' := 2) dX8_widestStep_1 rfl ?_
  refine Z_bipush (pc' := 4) dX8_widestStep_2 rfl rfl ?_
  refine Z_callS0 (M' := mX8_in) (pc' := 7) (st := []) [vi x1, vi 1, vi 12] dX8_widestStep_4 rfl sX8_in lX8_53 rfl (Nat.le_of_ble_eq_true rfl) (Nat.le_refl 0) (Nat.le_refl 0) ?_
  refine Cl_mono P ?_
  rintro _ μ1 ⟨r2, rfl, P⟩
  show Z SS none mX8_widestStep (d + 1) 0 0 (qI Q) 7 [some (.ref 54), some (vi x1), none, none, none] [vi r2] μ1 0 0
  have h3 := P.1
  have P := P.2
  refine Z_if_ne (tgt := 13) (pc' := 10) dX8_widestStep_7 (by decide) rfl h3 (fun c4 => ?_) (fun c4 => ?_)
  · have P := P.2 c4
    refine Z_aload_n (pc' := 14) dX8_widestStep_13 rfl rfl ?_
    refine Z_callV0 (M' := mX8_findsSpans) (pc' := 17) (st := []) [] dX8_widestStep_14 rfl vX8_findsSpans lX8_83 (Or.inl dd_54) rfl (Nat.le_of_ble_eq_true rfl) (Nat.le_refl 0) (Nat.le_refl 0) ?_
    refine Cl_mono P ?_
    rintro _ μ5 ⟨rfl, P⟩
    show Z SS none mX8_widestStep (d + 1) 0 0 (qI Q) 17 [some (.ref 54), some (vi x1), none, none, none] [] μ5 0 0
    refine Z_aload_n (pc' := 18) dX8_widestStep_17 rfl rfl ?_
    refine Z_getR (q := 55) (pc' := 21) dX8_widestStep_18 rfl fX8_7 rfl (Or.inl dd_54) (Or.inl rr_54_0) ?_
    refine Z_bipush (pc' := 23) dX8_widestStep_21 rfl rfl ?_
    refine Z_iaload (pc' := 24) dX8_widestStep_23 rfl (Or.inl dd_55) (Nat.le_of_ble_eq_true rfl) (by decide) (by decide) ?_
    refine Z_istore_n (pc' := 25) (lo' := [some (.ref 54), some (vi x1), some (vi (gI μ5 55 74)), none, none]) dX8_widestStep_24 rfl (by decide) rfl ?_
    refine Z_aload_n (pc' := 26) dX8_widestStep_25 rfl rfl ?_
    refine Z_getR (q := 55) (pc' := 29) dX8_widestStep_26 rfl fX8_7 rfl (Or.inl dd_54) (Or.inl rr_54_0) ?_
    refine Z_bipush (pc' := 31) dX8_widestStep_29 rfl rfl ?_
    refine Z_iaload (pc' := 32) dX8_widestStep_31 rfl (Or.inl dd_55) (Nat.le_of_ble_eq_true rfl) (by decide) (by decide) ?_
    have K : ∀ t8 : Int, t8 = (if (gI μ5 55 31) = 0 then (-1) else 4) → Z SS none mX8_widestStep (d + 1) 0 0 (qI Q) 40 [some (.ref 54), some (vi x1), some (vi (gI μ5 55 74)), none, none] [vi t8] μ5 0 0 := by
      rintro _ rfl
      have P := P.2
      refine Z_istore_n (pc' := 41) (lo' := [some (.ref 54), some (vi x1), some (vi (gI μ5 55 74)), some (vi (if (gI μ5 55 31) = 0 then (-1) else 4)), none]) dX8_widestStep_40 rfl (by decide) rfl ?_
      refine Z_iload_n (pc' := 42) dX8_widestStep_41 rfl rfl ?_
      have K : ∀ t10 : Int, t10 = (if ((if (gI μ5 55 31) = 0 then (-1) else 4) : Int) < 0 then 0 else 1) → Z SS none mX8_widestStep (d + 1) 0 0 (qI Q) 50 [some (.ref 54), some (vi x1), some (vi (gI μ5 55 74)), some (vi (if (gI μ5 55 31) = 0 then (-1) else 4)), none] [vi t10] μ5 0 0 := by
        rintro _ rfl
        refine Z_istore (pc' := 52) (lo' := [some (.ref 54), some (vi x1), some (vi (gI μ5 55 74)), some (vi (if (gI μ5 55 31) = 0 then (-1) else 4)), some (vi (if ((if (gI μ5 55 31) = 0 then (-1) else 4) : Int) < 0 then 0 else 1))]) dX8_widestStep_50 rfl (by decide) rfl ?_
        exact P
      refine Z_if_lt (tgt := 49) (pc' := 45) dX8_widestStep_42 (by decide) rfl (by (repeat' split) <;> exact z_lit rfl) (fun c9 => ?_) (fun c9 => ?_)
      · refine Z_iconst (pc' := 50) dX8_widestStep_49 rfl ?_
        refine Z_wk [true, true, true, true, false] rfl ?_
        exact K _ (by rw [if_pos c9])
      · refine Z_iconst (pc' := 46) dX8_widestStep_45 rfl ?_
        refine Z_goto (tgt := 50) dX8_widestStep_46 (by decide) ?_
        refine Z_wk [true, true, true, true, false] rfl ?_
        exact K _ (by rw [if_neg c9])
    have G := P.1
    have h6 := G
    refine Z_if_ne (tgt := 39) (pc' := 35) dX8_widestStep_32 (by decide) rfl h6 (fun c7 => ?_) (fun c7 => ?_)
    · refine Z_iconst (pc' := 40) dX8_widestStep_39 rfl ?_
      refine Z_wk [true, true, true, false, false] rfl ?_
      exact K _ (by rw [if_neg c7])
    · refine Z_iconst (pc' := 36) dX8_widestStep_35 rfl ?_
      refine Z_goto (tgt := 40) dX8_widestStep_36 (by decide) ?_
      refine Z_wk [true, true, true, false, false] rfl ?_
      exact K _ (by rw [if_pos c7])
  · have P := P.1 c4
    refine Z_bipush (pc' := 12) dX8_widestStep_10 rfl rfl ?_
    exact Z_ireturn dX8_widestStep_12 rfl (Nat.le_refl 0) (Nat.le_refl 0) P
theorem bX8_widestStep_52 {d : Nat} {Q : Int → zMem → Prop} {μ : zMem} {x1 : Int} {x2 : Int} {x3 : Int} {x4 : Int} (P : (zIn x4) ∧ ((x4 = 0 → (Q x3 (sI μ 55 74 x2))) ∧ (¬ (x4 = 0) → (kX8_finds d x1 (sI μ 55 74 x3) (fun (r4 : Int) (μ3 : zMem) => ((zIn r4)) ∧ (((((if r4 = (-1) then 1 else 0) : Int) = 0 → True) ∧ (¬ (((if r4 = (-1) then 1 else 0) : Int) = 0) → (zIn (x3 - (if ((if r4 = (-1) then 1 else 0) : Int) = 0 then 0 else 1))))) ∧ (zX8_widestStep_52 d Q x1 x2 (x3 - (if ((if r4 = (-1) then 1 else 0) : Int) = 0 then 0 else 1)) (if ((if r4 = (-1) then 1 else 0) : Int) = 0 then 0 else (if (x3 - (if ((if r4 = (-1) then 1 else 0) : Int) = 0 then 0 else 1)) < 0 then 0 else 1)) μ3))))))) : zX8_widestStep_52 d Q x1 x2 x3 x4 μ := by
  refine Z_iload (pc' := 54) dX8_widestStep_52 rfl rfl ?_
  have h1 := P.1
  have P := P.2
  refine Z_if_eq (tgt := 113) (pc' := 57) dX8_widestStep_54 (by decide) rfl h1 (fun c2 => ?_) (fun c2 => ?_)
  · have P := P.1 c2
    refine Z_aload_n (pc' := 114) dX8_widestStep_113 rfl rfl ?_
    refine Z_getR (q := 55) (pc' := 117) dX8_widestStep_114 rfl fX8_7 rfl (Or.inl dd_54) (Or.inl rr_54_0) ?_
    refine Z_bipush (pc' := 119) dX8_widestStep_117 rfl rfl ?_
    refine Z_iload_n (pc' := 120) dX8_widestStep_119 rfl rfl ?_
    refine Z_iastore (pc' := 121) dX8_widestStep_120 rfl (Or.inl dd_55) (Nat.le_of_ble_eq_true rfl) (by decide) (by decide) ?_
    refine Z_iload_n (pc' := 122) dX8_widestStep_121 rfl rfl ?_
    exact Z_ireturn dX8_widestStep_122 rfl (Nat.le_refl 0) (Nat.le_refl 0) P
  · have P := P.2 c2
    refine Z_aload_n (pc' := 58) dX8_widestStep_57 rfl rfl ?_
    refine Z_getR (q := 55) (pc' := 61) dX8_widestStep_58 rfl fX8_7 rfl (Or.inl dd_54) (Or.inl rr_54_0) ?_
    refine Z_bipush (pc' := 63) dX8_widestStep_61 rfl rfl ?_
    refine Z_iload_n (pc' := 64) dX8_widestStep_63 rfl rfl ?_
    refine Z_iastore (pc' := 65) dX8_widestStep_64 rfl (Or.inl dd_55) (Nat.le_of_ble_eq_true rfl) (by decide) (by decide) ?_
    refine Z_aload_n (pc' := 66) dX8_widestStep_65 rfl rfl ?_
    refine Z_iload_n (pc' := 67) dX8_widestStep_66 rfl rfl ?_
    refine Z_callV0 (M' := mX8_finds) (pc' := 70) (st := []) [vi x1] dX8_widestStep_67 rfl vX8_finds lX8_141 (Or.inl dd_54) rfl (Nat.le_of_ble_eq_true rfl) (Nat.le_refl 0) (Nat.le_refl 0) ?_
    refine Cl_mono P ?_
    rintro _ μ3 ⟨r4, rfl, P⟩
    show Z SS none mX8_widestStep (d + 1) 0 0 (qI Q) 70 [some (.ref 54), some (vi x1), some (vi x2), some (vi x3), some (vi x4)] [vi r4] μ3 0 0
    refine Z_iconst (pc' := 71) dX8_widestStep_70 rfl ?_
    have K : ∀ t7 : Int, t7 = (if r4 = (-1) then 1 else 0) → Z SS none mX8_widestStep (d + 1) 0 0 (qI Q) 79 [some (.ref 54), some (vi x1), some (vi x2), some (vi x3), some (vi x4)] [vi t7] μ3 0 0 := by
      rintro _ rfl
      have P := P.2
      refine Z_istore (pc' := 81) (lo' := [some (.ref 54), some (vi x1), some (vi x2), some (vi x3), some (vi (if r4 = (-1) then 1 else 0))]) dX8_widestStep_79 rfl (by decide) rfl ?_
      refine Z_iload_n (pc' := 82) dX8_widestStep_81 rfl rfl ?_
      refine Z_iload (pc' := 84) dX8_widestStep_82 rfl rfl ?_
      have K : ∀ t9 : Int, t9 = (if ((if r4 = (-1) then 1 else 0) : Int) = 0 then 0 else 1) → Z SS none mX8_widestStep (d + 1) 0 0 (qI Q) 92 [some (.ref 54), some (vi x1), some (vi x2), some (vi x3), some (vi (if r4 = (-1) then 1 else 0))] [vi t9, vi x3] μ3 0 0 := by
        rintro _ rfl
        refine Z_isub (pc' := 93) dX8_widestStep_92 rfl ?_
        refine Z_istore_n (pc' := 94) (lo' := [some (.ref 54), some (vi x1), some (vi x2), some (vi (x3 - (if ((if r4 = (-1) then 1 else 0) : Int) = 0 then 0 else 1))), some (vi (if r4 = (-1) then 1 else 0))]) dX8_widestStep_93 rfl (by decide) rfl ?_
        refine Z_iload (pc' := 96) dX8_widestStep_94 rfl rfl ?_
        have K : ∀ t13 : Int, t13 = (if ((if r4 = (-1) then 1 else 0) : Int) = 0 then 0 else (if (x3 - (if ((if r4 = (-1) then 1 else 0) : Int) = 0 then 0 else 1)) < 0 then 0 else 1)) → Z SS none mX8_widestStep (d + 1) 0 0 (qI Q) 108 [some (.ref 54), some (vi x1), some (vi x2), some (vi (x3 - (if ((if r4 = (-1) then 1 else 0) : Int) = 0 then 0 else 1))), some (vi (if r4 = (-1) then 1 else 0))] [vi t13] μ3 0 0 := by
          rintro _ rfl
          have P := P.2
          refine Z_istore (pc' := 110) (lo' := [some (.ref 54), some (vi x1), some (vi x2), some (vi (x3 - (if ((if r4 = (-1) then 1 else 0) : Int) = 0 then 0 else 1))), some (vi (if ((if r4 = (-1) then 1 else 0) : Int) = 0 then 0 else (if (x3 - (if ((if r4 = (-1) then 1 else 0) : Int) = 0 then 0 else 1)) < 0 then 0 else 1)))]) dX8_widestStep_108 rfl (by decide) rfl ?_
          refine Z_goto (tgt := 52) dX8_widestStep_110 (by decide) ?_
          exact P
        have G := P.1
        refine Z_if_eq (tgt := 107) (pc' := 99) dX8_widestStep_96 (by decide) rfl (by (repeat' split) <;> exact z_lit rfl) (fun c10 => ?_) (fun c10 => ?_)
        · refine Z_iconst (pc' := 108) dX8_widestStep_107 rfl ?_
          exact K _ (by rw [if_pos c10])
        · have G := G.2 c10
          refine Z_iload_n (pc' := 100) dX8_widestStep_99 rfl rfl ?_
          have h11 := G
          refine Z_if_lt (tgt := 107) (pc' := 103) dX8_widestStep_100 (by decide) rfl h11 (fun c12 => ?_) (fun c12 => ?_)
          · refine Z_iconst (pc' := 108) dX8_widestStep_107 rfl ?_
            exact K _ (by rw [if_neg c10, if_pos c12])
          · refine Z_iconst (pc' := 104) dX8_widestStep_103 rfl ?_
            refine Z_goto (tgt := 108) dX8_widestStep_104 (by decide) ?_
            exact K _ (by rw [if_neg c10, if_neg c12])
      refine Z_if_eq (tgt := 91) (pc' := 87) dX8_widestStep_84 (by decide) rfl (by (repeat' split) <;> exact z_lit rfl) (fun c8 => ?_) (fun c8 => ?_)
      · refine Z_iconst (pc' := 92) dX8_widestStep_91 rfl ?_
        exact K _ (by rw [if_pos c8])
      · refine Z_iconst (pc' := 88) dX8_widestStep_87 rfl ?_
        refine Z_goto (tgt := 92) dX8_widestStep_88 (by decide) ?_
        exact K _ (by rw [if_neg c8])
    have G := P.1
    have h5 := G
    refine Z_icmp_ne (tgt := 78) (pc' := 74) dX8_widestStep_71 (by decide) rfl h5 (z_lit rfl) (fun c6 => ?_) (fun c6 => ?_)
    · refine Z_iconst (pc' := 79) dX8_widestStep_78 rfl ?_
      exact K _ (by rw [if_neg c6])
    · refine Z_iconst (pc' := 75) dX8_widestStep_74 rfl ?_
      refine Z_goto (tgt := 79) dX8_widestStep_75 (by decide) ?_
      exact K _ (by rw [if_pos c6])
abbrev zX8_tightestLimit_49 (d : Nat) (Q : Int → zMem → Prop) (x1 : Int) (x2 : Int) (x3 : Int) (x4 : Int) (μ : zMem) : Prop := Z SS none mX8_tightestLimit (d + 1) 0 0 (qI Q) 49 [some (.ref 54), some (vi x1), some (vi x2), some (vi x3), some (vi x4)] [] μ 0 0
theorem bX8_tightestLimit {d : Nat} {Q : Int → zMem → Prop} {μ : zMem}  (P : kX8_findsSpans d μ (fun μ1 : zMem => kX8_fits d (sI μ1 55 81 9) (fun (r3 : Int) (μ2 : zMem) => ((zIn r3)) ∧ (((zIn r3)) ∧ (zX8_tightestLimit_49 d Q (gI μ1 55 81) r3 (if r3 = (-1) then (-1) else 1) (if r3 = (-1) then 0 else 1) μ2))))) : kX8_tightestLimit (d + 1) μ Q := by
  refine Cl_of rfl (Nat.le_of_ble_eq_true rfl) rfl ?_
  show Z SS none mX8_tightestLimit (d + 1) 0 0 (qI Q) 0 [some (.ref 54), none, none, none, none] [] μ 0 0
  refine Z_aload_n (pc' := 1) dX8_tightestLimit_0 rfl rfl ?_
  refine Z_callV0 (M' := mX8_findsSpans) (pc' := 4) (st := []) [] dX8_tightestLimit_1 rfl vX8_findsSpans lX8_83 (Or.inl dd_54) rfl (Nat.le_of_ble_eq_true rfl) (Nat.le_refl 0) (Nat.le_refl 0) ?_
  refine Cl_mono P ?_
  rintro _ μ1 ⟨rfl, P⟩
  show Z SS none mX8_tightestLimit (d + 1) 0 0 (qI Q) 4 [some (.ref 54), none, none, none, none] [] μ1 0 0
  refine Z_aload_n (pc' := 5) dX8_tightestLimit_4 rfl rfl ?_
  refine Z_getR (q := 55) (pc' := 8) dX8_tightestLimit_5 rfl fX8_7 rfl (Or.inl dd_54) (Or.inl rr_54_0) ?_
  refine Z_bipush (pc' := 10) dX8_tightestLimit_8 rfl rfl ?_
  refine Z_iaload (pc' := 11) dX8_tightestLimit_10 rfl (Or.inl dd_55) (Nat.le_of_ble_eq_true rfl) (by decide) (by decide) ?_
  refine Z_istore_n (pc' := 12) (lo' := [some (.ref 54), some (vi (gI μ1 55 81)), none, none, none]) dX8_tightestLimit_11 rfl (by decide) rfl ?_
  refine Z_aload_n (pc' := 13) dX8_tightestLimit_12 rfl rfl ?_
  refine Z_getR (q := 55) (pc' := 16) dX8_tightestLimit_13 rfl fX8_7 rfl (Or.inl dd_54) (Or.inl rr_54_0) ?_
  refine Z_bipush (pc' := 18) dX8_tightestLimit_16 rfl rfl ?_
  refine Z_bipush (pc' := 20) dX8_tightestLimit_18 rfl rfl ?_
  refine Z_iastore (pc' := 21) dX8_tightestLimit_20 rfl (Or.inl dd_55) (Nat.le_of_ble_eq_true rfl) (by decide) (by decide) ?_
  refine Z_aload_n (pc' := 22) dX8_tightestLimit_21 rfl rfl ?_
  refine Z_callV0 (M' := mX8_fits) (pc' := 25) (st := []) [] dX8_tightestLimit_22 rfl vX8_fits lX8_144 (Or.inl dd_54) rfl (Nat.le_of_ble_eq_true rfl) (Nat.le_refl 0) (Nat.le_refl 0) ?_
  refine Cl_mono P ?_
  rintro _ μ2 ⟨r3, rfl, P⟩
  show Z SS none mX8_tightestLimit (d + 1) 0 0 (qI Q) 25 [some (.ref 54), some (vi (gI μ1 55 81)), none, none, none] [vi r3] μ2 0 0
  refine Z_istore_n (pc' := 26) (lo' := [some (.ref 54), some (vi (gI μ1 55 81)), some (vi r3), none, none]) dX8_tightestLimit_25 rfl (by decide) rfl ?_
  refine Z_iload_n (pc' := 27) dX8_tightestLimit_26 rfl rfl ?_
  refine Z_iconst (pc' := 28) dX8_tightestLimit_27 rfl ?_
  have K : ∀ t6 : Int, t6 = (if r3 = (-1) then (-1) else 1) → Z SS none mX8_tightestLimit (d + 1) 0 0 (qI Q) 36 [some (.ref 54), some (vi (gI μ1 55 81)), some (vi r3), none, none] [vi t6] μ2 0 0 := by
    rintro _ rfl
    have P := P.2
    refine Z_istore_n (pc' := 37) (lo' := [some (.ref 54), some (vi (gI μ1 55 81)), some (vi r3), some (vi (if r3 = (-1) then (-1) else 1)), none]) dX8_tightestLimit_36 rfl (by decide) rfl ?_
    refine Z_iload_n (pc' := 38) dX8_tightestLimit_37 rfl rfl ?_
    refine Z_iconst (pc' := 39) dX8_tightestLimit_38 rfl ?_
    have K : ∀ t9 : Int, t9 = (if r3 = (-1) then 0 else 1) → Z SS none mX8_tightestLimit (d + 1) 0 0 (qI Q) 47 [some (.ref 54), some (vi (gI μ1 55 81)), some (vi r3), some (vi (if r3 = (-1) then (-1) else 1)), none] [vi t9] μ2 0 0 := by
      rintro _ rfl
      have P := P.2
      refine Z_istore (pc' := 49) (lo' := [some (.ref 54), some (vi (gI μ1 55 81)), some (vi r3), some (vi (if r3 = (-1) then (-1) else 1)), some (vi (if r3 = (-1) then 0 else 1))]) dX8_tightestLimit_47 rfl (by decide) rfl ?_
      exact P
    have G := P.1
    have h7 := G
    refine Z_icmp_eq (tgt := 46) (pc' := 42) dX8_tightestLimit_39 (by decide) rfl h7 (z_lit rfl) (fun c8 => ?_) (fun c8 => ?_)
    · refine Z_iconst (pc' := 47) dX8_tightestLimit_46 rfl ?_
      refine Z_wk [true, true, true, true, false] rfl ?_
      exact K _ (by rw [if_pos c8])
    · refine Z_iconst (pc' := 43) dX8_tightestLimit_42 rfl ?_
      refine Z_goto (tgt := 47) dX8_tightestLimit_43 (by decide) ?_
      refine Z_wk [true, true, true, true, false] rfl ?_
      exact K _ (by rw [if_neg c8])
  have G := P.1
  have h4 := G
  refine Z_icmp_ne (tgt := 35) (pc' := 31) dX8_tightestLimit_28 (by decide) rfl h4 (z_lit rfl) (fun c5 => ?_) (fun c5 => ?_)
  · refine Z_iconst (pc' := 36) dX8_tightestLimit_35 rfl ?_
    refine Z_wk [true, true, true, false, false] rfl ?_
    exact K _ (by rw [if_neg c5])
  · refine Z_iconst (pc' := 32) dX8_tightestLimit_31 rfl ?_
    refine Z_goto (tgt := 36) dX8_tightestLimit_32 (by decide) ?_
    refine Z_wk [true, true, true, false, false] rfl ?_
    exact K _ (by rw [if_pos c5])
theorem bX8_tightestLimit_49 {d : Nat} {Q : Int → zMem → Prop} {μ : zMem} {x1 : Int} {x2 : Int} {x3 : Int} {x4 : Int} (P : (zIn x4) ∧ ((x4 = 0 → (Q x3 (sI μ 55 81 x1))) ∧ (¬ (x4 = 0) → (kX8_fits d (sI μ 55 81 x3) (fun (r4 : Int) (μ3 : zMem) => ((zIn r4) ∧ ((zIn x2))) ∧ (zX8_tightestLimit_49 d Q x1 x2 (x3 + (if ((if r4 = x2 then 0 else 1) : Int) = 0 then 0 else 1)) (if r4 = x2 then 0 else 1) μ3)))))) : zX8_tightestLimit_49 d Q x1 x2 x3 x4 μ := by
  refine Z_iload (pc' := 51) dX8_tightestLimit_49 rfl rfl ?_
  have h1 := P.1
  have P := P.2
  refine Z_if_eq (tgt := 93) (pc' := 54) dX8_tightestLimit_51 (by decide) rfl h1 (fun c2 => ?_) (fun c2 => ?_)
  · have P := P.1 c2
    refine Z_aload_n (pc' := 94) dX8_tightestLimit_93 rfl rfl ?_
    refine Z_getR (q := 55) (pc' := 97) dX8_tightestLimit_94 rfl fX8_7 rfl (Or.inl dd_54) (Or.inl rr_54_0) ?_
    refine Z_bipush (pc' := 99) dX8_tightestLimit_97 rfl rfl ?_
    refine Z_iload_n (pc' := 100) dX8_tightestLimit_99 rfl rfl ?_
    refine Z_iastore (pc' := 101) dX8_tightestLimit_100 rfl (Or.inl dd_55) (Nat.le_of_ble_eq_true rfl) (by decide) (by decide) ?_
    refine Z_iload_n (pc' := 102) dX8_tightestLimit_101 rfl rfl ?_
    exact Z_ireturn dX8_tightestLimit_102 rfl (Nat.le_refl 0) (Nat.le_refl 0) P
  · have P := P.2 c2
    refine Z_aload_n (pc' := 55) dX8_tightestLimit_54 rfl rfl ?_
    refine Z_getR (q := 55) (pc' := 58) dX8_tightestLimit_55 rfl fX8_7 rfl (Or.inl dd_54) (Or.inl rr_54_0) ?_
    refine Z_bipush (pc' := 60) dX8_tightestLimit_58 rfl rfl ?_
    refine Z_iload_n (pc' := 61) dX8_tightestLimit_60 rfl rfl ?_
    refine Z_iastore (pc' := 62) dX8_tightestLimit_61 rfl (Or.inl dd_55) (Nat.le_of_ble_eq_true rfl) (by decide) (by decide) ?_
    refine Z_aload_n (pc' := 63) dX8_tightestLimit_62 rfl rfl ?_
    refine Z_callV0 (M' := mX8_fits) (pc' := 66) (st := []) [] dX8_tightestLimit_63 rfl vX8_fits lX8_144 (Or.inl dd_54) rfl (Nat.le_of_ble_eq_true rfl) (Nat.le_refl 0) (Nat.le_refl 0) ?_
    refine Cl_mono P ?_
    rintro _ μ3 ⟨r4, rfl, P⟩
    show Z SS none mX8_tightestLimit (d + 1) 0 0 (qI Q) 66 [some (.ref 54), some (vi x1), some (vi x2), some (vi x3), some (vi x4)] [vi r4] μ3 0 0
    refine Z_iload_n (pc' := 67) dX8_tightestLimit_66 rfl rfl ?_
    have K : ∀ t8 : Int, t8 = (if r4 = x2 then 0 else 1) → Z SS none mX8_tightestLimit (d + 1) 0 0 (qI Q) 75 [some (.ref 54), some (vi x1), some (vi x2), some (vi x3), some (vi x4)] [vi t8] μ3 0 0 := by
      rintro _ rfl
      have P := P.2
      refine Z_istore (pc' := 77) (lo' := [some (.ref 54), some (vi x1), some (vi x2), some (vi x3), some (vi (if r4 = x2 then 0 else 1))]) dX8_tightestLimit_75 rfl (by decide) rfl ?_
      refine Z_iload_n (pc' := 78) dX8_tightestLimit_77 rfl rfl ?_
      refine Z_iload (pc' := 80) dX8_tightestLimit_78 rfl rfl ?_
      have K : ∀ t10 : Int, t10 = (if ((if r4 = x2 then 0 else 1) : Int) = 0 then 0 else 1) → Z SS none mX8_tightestLimit (d + 1) 0 0 (qI Q) 88 [some (.ref 54), some (vi x1), some (vi x2), some (vi x3), some (vi (if r4 = x2 then 0 else 1))] [vi t10, vi x3] μ3 0 0 := by
        rintro _ rfl
        refine Z_iadd (pc' := 89) dX8_tightestLimit_88 rfl ?_
        refine Z_istore_n (pc' := 90) (lo' := [some (.ref 54), some (vi x1), some (vi x2), some (vi (x3 + (if ((if r4 = x2 then 0 else 1) : Int) = 0 then 0 else 1))), some (vi (if r4 = x2 then 0 else 1))]) dX8_tightestLimit_89 rfl (by decide) rfl ?_
        refine Z_goto (tgt := 49) dX8_tightestLimit_90 (by decide) ?_
        exact P
      refine Z_if_eq (tgt := 87) (pc' := 83) dX8_tightestLimit_80 (by decide) rfl (by (repeat' split) <;> exact z_lit rfl) (fun c9 => ?_) (fun c9 => ?_)
      · refine Z_iconst (pc' := 88) dX8_tightestLimit_87 rfl ?_
        exact K _ (by rw [if_pos c9])
      · refine Z_iconst (pc' := 84) dX8_tightestLimit_83 rfl ?_
        refine Z_goto (tgt := 88) dX8_tightestLimit_84 (by decide) ?_
        exact K _ (by rw [if_neg c9])
    have G := P.1
    have h5 := G.1
    have G := G.2
    have h6 := G
    refine Z_icmp_eq (tgt := 74) (pc' := 70) dX8_tightestLimit_67 (by decide) rfl h5 h6 (fun c7 => ?_) (fun c7 => ?_)
    · refine Z_iconst (pc' := 75) dX8_tightestLimit_74 rfl ?_
      exact K _ (by rw [if_pos c7])
    · refine Z_iconst (pc' := 71) dX8_tightestLimit_70 rfl ?_
      refine Z_goto (tgt := 75) dX8_tightestLimit_71 (by decide) ?_
      exact K _ (by rw [if_neg c7])
theorem bX8_layout {d : Nat} {Q : Int → zMem → Prop} {μ : zMem} {x1 : Int} (P : kX8_in d x1 0 4 μ (fun (r2 : Int) (μ1 : zMem) => (zIn r2) ∧ ((r2 = 0 → (Q (-3) μ1)) ∧ (¬ (r2 = 0) → (((zIn (gI μ1 55 82)) ∧ (((gI μ1 55 82) = 1 → ((0 ≤ (83 + x1)) ∧ (((83 + x1) < 1285)))) ∧ (¬ ((gI μ1 55 82) = 1) → True))) ∧ (Q (if (gI μ1 55 82) = 1 then (gI μ1 55 (83 + x1)) else (-4)) μ1)))))) : kX8_layout (d + 1) x1 μ Q := by
  refine Cl_of rfl (Nat.le_of_ble_eq_true rfl) rfl ?_
  show Z SS none mX8_layout (d + 1) 0 0 (qI Q) 0 [some (.ref 54), some (vi x1)] [] μ 0 0
  refine Z_iload_n (pc' := 1) dX8_layout_0 rfl rfl ?_
  refine Z_iconst (pc' := 2) dX8_layout_1 rfl ?_
  refine Z_iconst (pc' := 3) dX8_layout_2 rfl ?_
  refine Z_callS0 (M' := mX8_in) (pc' := 6) (st := []) [vi x1, vi 0, vi 4] dX8_layout_3 rfl sX8_in lX8_53 rfl (Nat.le_of_ble_eq_true rfl) (Nat.le_refl 0) (Nat.le_refl 0) ?_
  refine Cl_mono P ?_
  rintro _ μ1 ⟨r2, rfl, P⟩
  show Z SS none mX8_layout (d + 1) 0 0 (qI Q) 6 [some (.ref 54), some (vi x1)] [vi r2] μ1 0 0
  have h3 := P.1
  have P := P.2
  refine Z_if_ne (tgt := 12) (pc' := 9) dX8_layout_6 (by decide) rfl h3 (fun c4 => ?_) (fun c4 => ?_)
  · have P := P.2 c4
    refine Z_aload_n (pc' := 13) dX8_layout_12 rfl rfl ?_
    refine Z_getR (q := 55) (pc' := 16) dX8_layout_13 rfl fX8_7 rfl (Or.inl dd_54) (Or.inl rr_54_0) ?_
    refine Z_bipush (pc' := 18) dX8_layout_16 rfl rfl ?_
    refine Z_iaload (pc' := 19) dX8_layout_18 rfl (Or.inl dd_55) (Nat.le_of_ble_eq_true rfl) (by decide) (by decide) ?_
    refine Z_iconst (pc' := 20) dX8_layout_19 rfl ?_
    have K : ∀ t9 : Int, t9 = (if (gI μ1 55 82) = 1 then (gI μ1 55 (83 + x1)) else (-4)) → Z SS none mX8_layout (d + 1) 0 0 (qI Q) 37 [some (.ref 54), some (vi x1)] [vi t9] μ1 0 0 := by
      rintro _ rfl
      have P := P.2
      exact Z_ireturn dX8_layout_37 rfl (Nat.le_refl 0) (Nat.le_refl 0) P
    have G := P.1
    have h5 := G.1
    have G := G.2
    refine Z_icmp_ne (tgt := 35) (pc' := 23) dX8_layout_20 (by decide) rfl h5 (z_lit rfl) (fun c6 => ?_) (fun c6 => ?_)
    · refine Z_bipush (pc' := 37) dX8_layout_35 rfl rfl ?_
      exact K _ (by rw [if_neg c6])
    · have G := G.1 c6
      refine Z_aload_n (pc' := 24) dX8_layout_23 rfl rfl ?_
      refine Z_getR (q := 55) (pc' := 27) dX8_layout_24 rfl fX8_7 rfl (Or.inl dd_54) (Or.inl rr_54_0) ?_
      refine Z_bipush (pc' := 29) dX8_layout_27 rfl rfl ?_
      refine Z_iload_n (pc' := 30) dX8_layout_29 rfl rfl ?_
      refine Z_iadd (pc' := 31) dX8_layout_30 rfl ?_
      have h7 := G.1
      have G := G.2
      have h8 := G
      refine Z_iaload (pc' := 32) dX8_layout_31 rfl (Or.inl dd_55) (Nat.le_of_ble_eq_true rfl) h7 h8 ?_
      refine Z_goto (tgt := 37) dX8_layout_32 (by decide) ?_
      exact K _ (by rw [if_pos c6])
  · have P := P.1 c4
    refine Z_bipush (pc' := 11) dX8_layout_9 rfl rfl ?_
    exact Z_ireturn dX8_layout_11 rfl (Nat.le_refl 0) (Nat.le_refl 0) P
theorem bX8_line {d : Nat} {Q : Int → zMem → Prop} {μ : zMem} {x1 : Int} {x2 : Int} (P : (zIn (gI μ 55 82)) ∧ (((gI μ 55 82) = 0 → (Q (-4) μ)) ∧ (¬ ((gI μ 55 82) = 0) → (kX8_in d x1 0 ((gI μ 55 84) - 1) μ (fun (r4 : Int) (μ3 : zMem) => (zIn r4) ∧ ((r4 = 0 → (Q (-2) μ3)) ∧ (¬ (r4 = 0) → (kX8_in d x2 0 6 μ3 (fun (r8 : Int) (μ7 : zMem) => ((zIn r8) ∧ ((r8 = 0 → True) ∧ (¬ (r8 = 0) → ((0 ≤ ((88 + (7 * x1)) + x2)) ∧ ((((88 + (7 * x1)) + x2) < 1285)))))) ∧ (Q (if r8 = 0 then (-3) else (gI μ7 55 ((88 + (7 * x1)) + x2))) μ7)))))))))) : kX8_line (d + 1) x1 x2 μ Q := by
  refine Cl_of rfl (Nat.le_of_ble_eq_true rfl) rfl ?_
  show Z SS none mX8_line (d + 1) 0 0 (qI Q) 0 [some (.ref 54), some (vi x1), some (vi x2)] [] μ 0 0
  refine Z_aload_n (pc' := 1) dX8_line_0 rfl rfl ?_
  refine Z_getR (q := 55) (pc' := 4) dX8_line_1 rfl fX8_7 rfl (Or.inl dd_54) (Or.inl rr_54_0) ?_
  refine Z_bipush (pc' := 6) dX8_line_4 rfl rfl ?_
  refine Z_iaload (pc' := 7) dX8_line_6 rfl (Or.inl dd_55) (Nat.le_of_ble_eq_true rfl) (by decide) (by decide) ?_
  have h1 := P.1
  have P := P.2
  refine Z_if_ne (tgt := 13) (pc' := 10) dX8_line_7 (by decide) rfl h1 (fun c2 => ?_) (fun c2 => ?_)
  · have P := P.2 c2
    refine Z_iload_n (pc' := 14) dX8_line_13 rfl rfl ?_
    refine Z_iconst (pc' := 15) dX8_line_14 rfl ?_
    refine Z_aload_n (pc' := 16) dX8_line_15 rfl rfl ?_
    refine Z_getR (q := 55) (pc' := 19) dX8_line_16 rfl fX8_7 rfl (Or.inl dd_54) (Or.inl rr_54_0) ?_
    refine Z_bipush (pc' := 21) dX8_line_19 rfl rfl ?_
    refine Z_iaload (pc' := 22) dX8_line_21 rfl (Or.inl dd_55) (Nat.le_of_ble_eq_true rfl) (by decide) (by decide) ?_
    refine Z_iconst (pc' := 23) dX8_line_22 rfl ?_
    refine Z_isub (pc' := 24) dX8_line_23 rfl ?_
    refine Z_callS0 (M' := mX8_in) (pc' := 27) (st := []) [vi x1, vi 0, vi ((gI μ 55 84) - 1)] dX8_line_24 rfl sX8_in lX8_53 rfl (Nat.le_of_ble_eq_true rfl) (Nat.le_refl 0) (Nat.le_refl 0) ?_
    refine Cl_mono P ?_
    rintro _ μ3 ⟨r4, rfl, P⟩
    show Z SS none mX8_line (d + 1) 0 0 (qI Q) 27 [some (.ref 54), some (vi x1), some (vi x2)] [vi r4] μ3 0 0
    have h5 := P.1
    have P := P.2
    refine Z_if_ne (tgt := 33) (pc' := 30) dX8_line_27 (by decide) rfl h5 (fun c6 => ?_) (fun c6 => ?_)
    · have P := P.2 c6
      refine Z_iload_n (pc' := 34) dX8_line_33 rfl rfl ?_
      refine Z_iconst (pc' := 35) dX8_line_34 rfl ?_
      refine Z_bipush (pc' := 37) dX8_line_35 rfl rfl ?_
      refine Z_callS0 (M' := mX8_in) (pc' := 40) (st := []) [vi x2, vi 0, vi 6] dX8_line_37 rfl sX8_in lX8_53 rfl (Nat.le_of_ble_eq_true rfl) (Nat.le_refl 0) (Nat.le_refl 0) ?_
      refine Cl_mono P ?_
      rintro _ μ7 ⟨r8, rfl, P⟩
      show Z SS none mX8_line (d + 1) 0 0 (qI Q) 40 [some (.ref 54), some (vi x1), some (vi x2)] [vi r8] μ7 0 0
      have K : ∀ t13 : Int, t13 = (if r8 = 0 then (-3) else (gI μ7 55 ((88 + (7 * x1)) + x2))) → Z SS none mX8_line (d + 1) 0 0 (qI Q) 62 [some (.ref 54), some (vi x1), some (vi x2)] [vi t13] μ7 0 0 := by
        rintro _ rfl
        have P := P.2
        exact Z_ireturn dX8_line_62 rfl (Nat.le_refl 0) (Nat.le_refl 0) P
      have G := P.1
      have h9 := G.1
      have G := G.2
      refine Z_if_eq (tgt := 60) (pc' := 43) dX8_line_40 (by decide) rfl h9 (fun c10 => ?_) (fun c10 => ?_)
      · refine Z_bipush (pc' := 62) dX8_line_60 rfl rfl ?_
        exact K _ (by rw [if_pos c10])
      · have G := G.2 c10
        refine Z_aload_n (pc' := 44) dX8_line_43 rfl rfl ?_
        refine Z_getR (q := 55) (pc' := 47) dX8_line_44 rfl fX8_7 rfl (Or.inl dd_54) (Or.inl rr_54_0) ?_
        refine Z_bipush (pc' := 49) dX8_line_47 rfl rfl ?_
        refine Z_bipush (pc' := 51) dX8_line_49 rfl rfl ?_
        refine Z_iload_n (pc' := 52) dX8_line_51 rfl rfl ?_
        refine Z_imul (pc' := 53) dX8_line_52 rfl ?_
        refine Z_iadd (pc' := 54) dX8_line_53 rfl ?_
        refine Z_iload_n (pc' := 55) dX8_line_54 rfl rfl ?_
        refine Z_iadd (pc' := 56) dX8_line_55 rfl ?_
        have h11 := G.1
        have G := G.2
        have h12 := G
        refine Z_iaload (pc' := 57) dX8_line_56 rfl (Or.inl dd_55) (Nat.le_of_ble_eq_true rfl) h11 h12 ?_
        refine Z_goto (tgt := 62) dX8_line_57 (by decide) ?_
        exact K _ (by rw [if_neg c10])
    · have P := P.1 c6
      refine Z_bipush (pc' := 32) dX8_line_30 rfl rfl ?_
      exact Z_ireturn dX8_line_32 rfl (Nat.le_refl 0) (Nat.le_refl 0) P
  · have P := P.1 c2
    refine Z_bipush (pc' := 12) dX8_line_10 rfl rfl ?_
    exact Z_ireturn dX8_line_12 rfl (Nat.le_refl 0) (Nat.le_refl 0) P
theorem bX8_placed {d : Nat} {Q : Int → zMem → Prop} {μ : zMem} {x1 : Int} {x2 : Int} (P : (zIn (gI μ 55 82)) ∧ (((gI μ 55 82) = 0 → (Q (-4) μ)) ∧ (¬ ((gI μ 55 82) = 0) → (kX8_in d x1 0 ((gI μ 55 256) - 1) μ (fun (r4 : Int) (μ3 : zMem) => (zIn r4) ∧ ((r4 = 0 → (Q (-2) μ3)) ∧ (¬ (r4 = 0) → (kX8_in d x2 0 4 μ3 (fun (r8 : Int) (μ7 : zMem) => ((zIn r8) ∧ ((r8 = 0 → True) ∧ (¬ (r8 = 0) → ((0 ≤ ((186 + (5 * x1)) + x2)) ∧ ((((186 + (5 * x1)) + x2) < 1285)))))) ∧ (Q (if r8 = 0 then (-3) else (gI μ7 55 ((186 + (5 * x1)) + x2))) μ7)))))))))) : kX8_placed (d + 1) x1 x2 μ Q := by
  refine Cl_of rfl (Nat.le_of_ble_eq_true rfl) rfl ?_
  show Z SS none mX8_placed (d + 1) 0 0 (qI Q) 0 [some (.ref 54), some (vi x1), some (vi x2)] [] μ 0 0
  refine Z_aload_n (pc' := 1) dX8_placed_0 rfl rfl ?_
  refine Z_getR (q := 55) (pc' := 4) dX8_placed_1 rfl fX8_7 rfl (Or.inl dd_54) (Or.inl rr_54_0) ?_
  refine Z_bipush (pc' := 6) dX8_placed_4 rfl rfl ?_
  refine Z_iaload (pc' := 7) dX8_placed_6 rfl (Or.inl dd_55) (Nat.le_of_ble_eq_true rfl) (by decide) (by decide) ?_
  have h1 := P.1
  have P := P.2
  refine Z_if_ne (tgt := 13) (pc' := 10) dX8_placed_7 (by decide) rfl h1 (fun c2 => ?_) (fun c2 => ?_)
  · have P := P.2 c2
    refine Z_iload_n (pc' := 14) dX8_placed_13 rfl rfl ?_
    refine Z_iconst (pc' := 15) dX8_placed_14 rfl ?_
    refine Z_aload_n (pc' := 16) dX8_placed_15 rfl rfl ?_
    refine Z_getR (q := 55) (pc' := 19) dX8_placed_16 rfl fX8_7 rfl (Or.inl dd_54) (Or.inl rr_54_0) ?_
    refine Z_sipush (pc' := 22) dX8_placed_19 rfl rfl ?_
    refine Z_iaload (pc' := 23) dX8_placed_22 rfl (Or.inl dd_55) (Nat.le_of_ble_eq_true rfl) (by decide) (by decide) ?_
    refine Z_iconst (pc' := 24) dX8_placed_23 rfl ?_
    refine Z_isub (pc' := 25) dX8_placed_24 rfl ?_
    refine Z_callS0 (M' := mX8_in) (pc' := 28) (st := []) [vi x1, vi 0, vi ((gI μ 55 256) - 1)] dX8_placed_25 rfl sX8_in lX8_53 rfl (Nat.le_of_ble_eq_true rfl) (Nat.le_refl 0) (Nat.le_refl 0) ?_
    refine Cl_mono P ?_
    rintro _ μ3 ⟨r4, rfl, P⟩
    show Z SS none mX8_placed (d + 1) 0 0 (qI Q) 28 [some (.ref 54), some (vi x1), some (vi x2)] [vi r4] μ3 0 0
    have h5 := P.1
    have P := P.2
    refine Z_if_ne (tgt := 34) (pc' := 31) dX8_placed_28 (by decide) rfl h5 (fun c6 => ?_) (fun c6 => ?_)
    · have P := P.2 c6
      refine Z_iload_n (pc' := 35) dX8_placed_34 rfl rfl ?_
      refine Z_iconst (pc' := 36) dX8_placed_35 rfl ?_
      refine Z_iconst (pc' := 37) dX8_placed_36 rfl ?_
      refine Z_callS0 (M' := mX8_in) (pc' := 40) (st := []) [vi x2, vi 0, vi 4] dX8_placed_37 rfl sX8_in lX8_53 rfl (Nat.le_of_ble_eq_true rfl) (Nat.le_refl 0) (Nat.le_refl 0) ?_
      refine Cl_mono P ?_
      rintro _ μ7 ⟨r8, rfl, P⟩
      show Z SS none mX8_placed (d + 1) 0 0 (qI Q) 40 [some (.ref 54), some (vi x1), some (vi x2)] [vi r8] μ7 0 0
      have K : ∀ t13 : Int, t13 = (if r8 = 0 then (-3) else (gI μ7 55 ((186 + (5 * x1)) + x2))) → Z SS none mX8_placed (d + 1) 0 0 (qI Q) 62 [some (.ref 54), some (vi x1), some (vi x2)] [vi t13] μ7 0 0 := by
        rintro _ rfl
        have P := P.2
        exact Z_ireturn dX8_placed_62 rfl (Nat.le_refl 0) (Nat.le_refl 0) P
      have G := P.1
      have h9 := G.1
      have G := G.2
      refine Z_if_eq (tgt := 60) (pc' := 43) dX8_placed_40 (by decide) rfl h9 (fun c10 => ?_) (fun c10 => ?_)
      · refine Z_bipush (pc' := 62) dX8_placed_60 rfl rfl ?_
        exact K _ (by rw [if_pos c10])
      · have G := G.2 c10
        refine Z_aload_n (pc' := 44) dX8_placed_43 rfl rfl ?_
        refine Z_getR (q := 55) (pc' := 47) dX8_placed_44 rfl fX8_7 rfl (Or.inl dd_54) (Or.inl rr_54_0) ?_
        refine Z_sipush (pc' := 50) dX8_placed_47 rfl rfl ?_
        refine Z_iconst (pc' := 51) dX8_placed_50 rfl ?_
        refine Z_iload_n (pc' := 52) dX8_placed_51 rfl rfl ?_
        refine Z_imul (pc' := 53) dX8_placed_52 rfl ?_
        refine Z_iadd (pc' := 54) dX8_placed_53 rfl ?_
        refine Z_iload_n (pc' := 55) dX8_placed_54 rfl rfl ?_
        refine Z_iadd (pc' := 56) dX8_placed_55 rfl ?_
        have h11 := G.1
        have G := G.2
        have h12 := G
        refine Z_iaload (pc' := 57) dX8_placed_56 rfl (Or.inl dd_55) (Nat.le_of_ble_eq_true rfl) h11 h12 ?_
        refine Z_goto (tgt := 62) dX8_placed_57 (by decide) ?_
        exact K _ (by rw [if_neg c10])
    · have P := P.1 c6
      refine Z_bipush (pc' := 33) dX8_placed_31 rfl rfl ?_
      exact Z_ireturn dX8_placed_33 rfl (Nat.le_refl 0) (Nat.le_refl 0) P
  · have P := P.1 c2
    refine Z_bipush (pc' := 12) dX8_placed_10 rfl rfl ?_
    exact Z_ireturn dX8_placed_12 rfl (Nat.le_refl 0) (Nat.le_refl 0) P
theorem bX8_type {d : Nat} {Q : Int → zMem → Prop} {μ : zMem} {x1 : Int} (P : kX8_in d x1 0 255 μ (fun (r2 : Int) (μ1 : zMem) => (zIn r2) ∧ ((r2 = 0 → (Q (-3) μ1)) ∧ (¬ (r2 = 0) → ((zIn (gI μ1 54 15)) ∧ (((gI μ1 54 15) = 80 → (Q (-5) μ1)) ∧ (¬ ((gI μ1 54 15) = 80) → ((0 ≤ (gI μ1 54 15)) ∧ (((gI μ1 54 15) < 80) ∧ (Q (gI (sI (sI μ1 63 (gI μ1 54 15) x1) 54 15 ((gI (sI μ1 63 (gI μ1 54 15) x1) 54 15) + 1)) 54 15) (sI (sI μ1 63 (gI μ1 54 15) x1) 54 15 ((gI (sI μ1 63 (gI μ1 54 15) x1) 54 15) + 1)))))))))))) : kX8_type (d + 1) x1 μ Q := by
  refine Cl_of rfl (Nat.le_of_ble_eq_true rfl) rfl ?_
  show Z SS none mX8_type (d + 1) 0 0 (qI Q) 0 [some (.ref 54), some (vi x1)] [] μ 0 0
  refine Z_iload_n (pc' := 1) dX8_type_0 rfl rfl ?_
  refine Z_iconst (pc' := 2) dX8_type_1 rfl ?_
  refine Z_sipush (pc' := 5) dX8_type_2 rfl rfl ?_
  refine Z_callS0 (M' := mX8_in) (pc' := 8) (st := []) [vi x1, vi 0, vi 255] dX8_type_5 rfl sX8_in lX8_53 rfl (Nat.le_of_ble_eq_true rfl) (Nat.le_refl 0) (Nat.le_refl 0) ?_
  refine Cl_mono P ?_
  rintro _ μ1 ⟨r2, rfl, P⟩
  show Z SS none mX8_type (d + 1) 0 0 (qI Q) 8 [some (.ref 54), some (vi x1)] [vi r2] μ1 0 0
  have h3 := P.1
  have P := P.2
  refine Z_if_ne (tgt := 14) (pc' := 11) dX8_type_8 (by decide) rfl h3 (fun c4 => ?_) (fun c4 => ?_)
  · have P := P.2 c4
    refine Z_aload_n (pc' := 15) dX8_type_14 rfl rfl ?_
    refine Z_getI' (ji := 15) (pc' := 18) dX8_type_15 rfl rfl fX8_150 rfl (Or.inl dd_54) ?_
    refine Z_bipush (pc' := 20) dX8_type_18 rfl rfl ?_
    have h5 := P.1
    have P := P.2
    refine Z_icmp_ne (tgt := 26) (pc' := 23) dX8_type_20 (by decide) rfl h5 (z_lit rfl) (fun c6 => ?_) (fun c6 => ?_)
    · have P := P.2 c6
      refine Z_aload_n (pc' := 27) dX8_type_26 rfl rfl ?_
      refine Z_getR (q := 63) (pc' := 30) dX8_type_27 rfl fX8_35 rfl (Or.inl dd_54) (Or.inl rr_54_14) ?_
      refine Z_aload_n (pc' := 31) dX8_type_30 rfl rfl ?_
      refine Z_getI' (ji := 15) (pc' := 34) dX8_type_31 rfl rfl fX8_150 rfl (Or.inl dd_54) ?_
      refine Z_iload_n (pc' := 35) dX8_type_34 rfl rfl ?_
      have h7 := P.1
      have P := P.2
      have h8 := P.1
      have P := P.2
      refine Z_iastore (pc' := 36) dX8_type_35 rfl (Or.inl dd_63) (Nat.le_of_ble_eq_true rfl) h7 h8 ?_
      refine Z_aload_n (pc' := 37) dX8_type_36 rfl rfl ?_
      refine Z_dup (pc' := 38) dX8_type_37 rfl rfl ?_
      refine Z_getI' (ji := 15) (pc' := 41) dX8_type_38 rfl rfl fX8_150 rfl (Or.inl dd_54) ?_
      refine Z_iconst (pc' := 42) dX8_type_41 rfl ?_
      refine Z_iadd (pc' := 43) dX8_type_42 rfl ?_
      refine Z_putI' (ji := 15) (pc' := 46) dX8_type_43 rfl rfl fX8_150 (Or.inl rfl) rfl (Or.inl dd_54) ?_
      refine Z_aload_n (pc' := 47) dX8_type_46 rfl rfl ?_
      refine Z_getI' (ji := 15) (pc' := 50) dX8_type_47 rfl rfl fX8_150 rfl (Or.inl dd_54) ?_
      exact Z_ireturn dX8_type_50 rfl (Nat.le_refl 0) (Nat.le_refl 0) P
    · have P := P.1 c6
      refine Z_bipush (pc' := 25) dX8_type_23 rfl rfl ?_
      exact Z_ireturn dX8_type_25 rfl (Nat.le_refl 0) (Nat.le_refl 0) P
  · have P := P.1 c4
    refine Z_bipush (pc' := 13) dX8_type_11 rfl rfl ?_
    exact Z_ireturn dX8_type_13 rfl (Nat.le_refl 0) (Nat.le_refl 0) P
theorem bX8_clearText {d : Nat} {Q : Int → zMem → Prop} {μ : zMem}  (P : Q (gI μ 54 15) (sI μ 54 15 0)) : kX8_clearText d μ Q := by
  refine Cl_of rfl (Nat.le_of_ble_eq_true rfl) rfl ?_
  show Z SS none mX8_clearText d 0 0 (qI Q) 0 [some (.ref 54), none] [] μ 0 0
  refine Z_aload_n (pc' := 1) dX8_clearText_0 rfl rfl ?_
  refine Z_getI' (ji := 15) (pc' := 4) dX8_clearText_1 rfl rfl fX8_150 rfl (Or.inl dd_54) ?_
  refine Z_istore_n (pc' := 5) (lo' := [some (.ref 54), some (vi (gI μ 54 15))]) dX8_clearText_4 rfl (by decide) rfl ?_
  refine Z_aload_n (pc' := 6) dX8_clearText_5 rfl rfl ?_
  refine Z_iconst (pc' := 7) dX8_clearText_6 rfl ?_
  refine Z_putI' (ji := 15) (pc' := 10) dX8_clearText_7 rfl rfl fX8_150 (Or.inl rfl) rfl (Or.inl dd_54) ?_
  refine Z_iload_n (pc' := 11) dX8_clearText_10 rfl rfl ?_
  exact Z_ireturn dX8_clearText_11 rfl (Nat.le_refl 0) (Nat.le_refl 0) P
theorem bX8_isLetter {d : Nat} {Q : Int → zMem → Prop} {μ : zMem}  (P : (zIn (gI μ 54 16)) ∧ ((zIn (gI μ 54 15)) ∧ (((gI μ 54 15) ≤ (gI μ 54 16) → (Q 0 μ)) ∧ (¬ ((gI μ 54 15) ≤ (gI μ 54 16)) → ((0 ≤ (gI μ 54 16)) ∧ (((gI μ 54 16) < 80) ∧ (kX8_in d (gI μ 63 (gI μ 54 16)) 65 90 μ (fun (r7 : Int) (μ6 : zMem) => (zIn r7) ∧ ((r7 = 0 → ((0 ≤ (gI μ6 54 16)) ∧ (((gI μ6 54 16) < 80) ∧ (kX8_in d (gI μ6 63 (gI μ6 54 16)) 97 122 μ6 (fun (r13 : Int) (μ12 : zMem) => ((zIn r13)) ∧ (Q (if r13 = 0 then 0 else 1) μ12)))))) ∧ (¬ (r7 = 0) → (Q 1 μ6))))))))))) : kX8_isLetter (d + 1) μ Q := by
  refine Cl_of rfl (Nat.le_of_ble_eq_true rfl) rfl ?_
  show Z SS none mX8_isLetter (d + 1) 0 0 (qI Q) 0 [some (.ref 54)] [] μ 0 0
  refine Z_aload_n (pc' := 1) dX8_isLetter_0 rfl rfl ?_
  refine Z_getI' (ji := 16) (pc' := 4) dX8_isLetter_1 rfl rfl fX8_153 rfl (Or.inl dd_54) ?_
  refine Z_aload_n (pc' := 5) dX8_isLetter_4 rfl rfl ?_
  refine Z_getI' (ji := 15) (pc' := 8) dX8_isLetter_5 rfl rfl fX8_150 rfl (Or.inl dd_54) ?_
  have h1 := P.1
  have P := P.2
  have h2 := P.1
  have P := P.2
  refine Z_icmp_ge (tgt := 53) (pc' := 11) dX8_isLetter_8 (by decide) rfl h1 h2 (fun c3 => ?_) (fun c3 => ?_)
  · have P := P.1 c3
    refine Z_iconst (pc' := 54) dX8_isLetter_53 rfl ?_
    exact Z_zreturn dX8_isLetter_54 rfl (Or.inl rfl) (Nat.le_refl 0) (Nat.le_refl 0) P
  · have P := P.2 c3
    refine Z_aload_n (pc' := 12) dX8_isLetter_11 rfl rfl ?_
    refine Z_getR (q := 63) (pc' := 15) dX8_isLetter_12 rfl fX8_35 rfl (Or.inl dd_54) (Or.inl rr_54_14) ?_
    refine Z_aload_n (pc' := 16) dX8_isLetter_15 rfl rfl ?_
    refine Z_getI' (ji := 16) (pc' := 19) dX8_isLetter_16 rfl rfl fX8_153 rfl (Or.inl dd_54) ?_
    have h4 := P.1
    have P := P.2
    have h5 := P.1
    have P := P.2
    refine Z_iaload (pc' := 20) dX8_isLetter_19 rfl (Or.inl dd_63) (Nat.le_of_ble_eq_true rfl) h4 h5 ?_
    refine Z_bipush (pc' := 22) dX8_isLetter_20 rfl rfl ?_
    refine Z_bipush (pc' := 24) dX8_isLetter_22 rfl rfl ?_
    refine Z_callS0 (M' := mX8_in) (pc' := 27) (st := []) [vi (gI μ 63 (gI μ 54 16)), vi 65, vi 90] dX8_isLetter_24 rfl sX8_in lX8_53 rfl (Nat.le_of_ble_eq_true rfl) (Nat.le_refl 0) (Nat.le_refl 0) ?_
    refine Cl_mono P ?_
    rintro _ μ6 ⟨r7, rfl, P⟩
    show Z SS none mX8_isLetter (d + 1) 0 0 (qI Q) 27 [some (.ref 54)] [vi r7] μ6 0 0
    have h8 := P.1
    have P := P.2
    refine Z_if_ne (tgt := 49) (pc' := 30) dX8_isLetter_27 (by decide) rfl h8 (fun c9 => ?_) (fun c9 => ?_)
    · have P := P.2 c9
      refine Z_iconst (pc' := 50) dX8_isLetter_49 rfl ?_
      refine Z_goto (tgt := 54) dX8_isLetter_50 (by decide) ?_
      exact Z_zreturn dX8_isLetter_54 rfl (Or.inr rfl) (Nat.le_refl 0) (Nat.le_refl 0) P
    · have P := P.1 c9
      refine Z_aload_n (pc' := 31) dX8_isLetter_30 rfl rfl ?_
      refine Z_getR (q := 63) (pc' := 34) dX8_isLetter_31 rfl fX8_35 rfl (Or.inl dd_54) (Or.inl rr_54_14) ?_
      refine Z_aload_n (pc' := 35) dX8_isLetter_34 rfl rfl ?_
      refine Z_getI' (ji := 16) (pc' := 38) dX8_isLetter_35 rfl rfl fX8_153 rfl (Or.inl dd_54) ?_
      have h10 := P.1
      have P := P.2
      have h11 := P.1
      have P := P.2
      refine Z_iaload (pc' := 39) dX8_isLetter_38 rfl (Or.inl dd_63) (Nat.le_of_ble_eq_true rfl) h10 h11 ?_
      refine Z_bipush (pc' := 41) dX8_isLetter_39 rfl rfl ?_
      refine Z_bipush (pc' := 43) dX8_isLetter_41 rfl rfl ?_
      refine Z_callS0 (M' := mX8_in) (pc' := 46) (st := []) [vi (gI μ6 63 (gI μ6 54 16)), vi 97, vi 122] dX8_isLetter_43 rfl sX8_in lX8_53 rfl (Nat.le_of_ble_eq_true rfl) (Nat.le_refl 0) (Nat.le_refl 0) ?_
      refine Cl_mono P ?_
      rintro _ μ12 ⟨r13, rfl, P⟩
      show Z SS none mX8_isLetter (d + 1) 0 0 (qI Q) 46 [some (.ref 54)] [vi r13] μ12 0 0
      have K : ∀ t16 : Int, t16 = (if r13 = 0 then 0 else 1) → Z SS none mX8_isLetter (d + 1) 0 0 (qI Q) 54 [some (.ref 54)] [vi t16] μ12 0 0 := by
        rintro _ rfl
        have P := P.2
        exact Z_zreturn dX8_isLetter_54 rfl (by (repeat' split) <;> simp) (Nat.le_refl 0) (Nat.le_refl 0) P
      have G := P.1
      have h14 := G
      refine Z_if_eq (tgt := 53) (pc' := 49) dX8_isLetter_46 (by decide) rfl h14 (fun c15 => ?_) (fun c15 => ?_)
      · refine Z_iconst (pc' := 54) dX8_isLetter_53 rfl ?_
        exact K _ (by rw [if_pos c15])
      · refine Z_iconst (pc' := 50) dX8_isLetter_49 rfl ?_
        refine Z_goto (tgt := 54) dX8_isLetter_50 (by decide) ?_
        exact K _ (by rw [if_neg c15])
theorem bX8_isSign {d : Nat} {Q : Int → zMem → Prop} {μ : zMem} {x1 : Int} (P : ((zIn (gI μ 54 16)) ∧ ((zIn (gI μ 54 15)) ∧ (((gI μ 54 15) ≤ (gI μ 54 16) → True) ∧ (¬ ((gI μ 54 15) ≤ (gI μ 54 16)) → ((0 ≤ (gI μ 54 16)) ∧ (((gI μ 54 16) < 80) ∧ ((zIn (gI μ 63 (gI μ 54 16))) ∧ ((zIn x1))))))))) ∧ (Q (if (gI μ 54 15) ≤ (gI μ 54 16) then 0 else (if (gI μ 63 (gI μ 54 16)) = x1 then 1 else 0)) μ)) : kX8_isSign d x1 μ Q := by
  refine Cl_of rfl (Nat.le_of_ble_eq_true rfl) rfl ?_
  show Z SS none mX8_isSign d 0 0 (qI Q) 0 [some (.ref 54), some (vi x1)] [] μ 0 0
  refine Z_aload_n (pc' := 1) dX8_isSign_0 rfl rfl ?_
  refine Z_getI' (ji := 16) (pc' := 4) dX8_isSign_1 rfl rfl fX8_153 rfl (Or.inl dd_54) ?_
  refine Z_aload_n (pc' := 5) dX8_isSign_4 rfl rfl ?_
  refine Z_getI' (ji := 15) (pc' := 8) dX8_isSign_5 rfl rfl fX8_150 rfl (Or.inl dd_54) ?_
  have K : ∀ t9 : Int, t9 = (if (gI μ 54 15) ≤ (gI μ 54 16) then 0 else (if (gI μ 63 (gI μ 54 16)) = x1 then 1 else 0)) → Z SS none mX8_isSign d 0 0 (qI Q) 29 [some (.ref 54), some (vi x1)] [vi t9] μ 0 0 := by
    rintro _ rfl
    have P := P.2
    exact Z_zreturn dX8_isSign_29 rfl (by (repeat' split) <;> simp) (Nat.le_refl 0) (Nat.le_refl 0) P
  have G := P.1
  have h1 := G.1
  have G := G.2
  have h2 := G.1
  have G := G.2
  refine Z_icmp_ge (tgt := 28) (pc' := 11) dX8_isSign_8 (by decide) rfl h1 h2 (fun c3 => ?_) (fun c3 => ?_)
  · refine Z_iconst (pc' := 29) dX8_isSign_28 rfl ?_
    exact K _ (by rw [if_pos c3])
  · have G := G.2 c3
    refine Z_aload_n (pc' := 12) dX8_isSign_11 rfl rfl ?_
    refine Z_getR (q := 63) (pc' := 15) dX8_isSign_12 rfl fX8_35 rfl (Or.inl dd_54) (Or.inl rr_54_14) ?_
    refine Z_aload_n (pc' := 16) dX8_isSign_15 rfl rfl ?_
    refine Z_getI' (ji := 16) (pc' := 19) dX8_isSign_16 rfl rfl fX8_153 rfl (Or.inl dd_54) ?_
    have h4 := G.1
    have G := G.2
    have h5 := G.1
    have G := G.2
    refine Z_iaload (pc' := 20) dX8_isSign_19 rfl (Or.inl dd_63) (Nat.le_of_ble_eq_true rfl) h4 h5 ?_
    refine Z_iload_n (pc' := 21) dX8_isSign_20 rfl rfl ?_
    have h6 := G.1
    have G := G.2
    have h7 := G
    refine Z_icmp_ne (tgt := 28) (pc' := 24) dX8_isSign_21 (by decide) rfl h6 h7 (fun c8 => ?_) (fun c8 => ?_)
    · refine Z_iconst (pc' := 29) dX8_isSign_28 rfl ?_
      exact K _ (by rw [if_neg c3, if_neg c8])
    · refine Z_iconst (pc' := 25) dX8_isSign_24 rfl ?_
      refine Z_goto (tgt := 29) dX8_isSign_25 (by decide) ?_
      exact K _ (by rw [if_neg c3, if_pos c8])
abbrev zX8_blanks_5 (d : Nat) (Q : Int → zMem → Prop) (x1 : Int) (μ : zMem) : Prop := Z SS none mX8_blanks (d + 1) 0 0 (qI Q) 5 [some (.ref 54), some (vi x1)] [] μ 0 0
theorem bX8_blanks {d : Nat} {Q : Int → zMem → Prop} {μ : zMem}  (P : zX8_blanks_5 d Q (gI μ 54 16) μ) : kX8_blanks (d + 1) μ Q := by
  refine Cl_of rfl (Nat.le_of_ble_eq_true rfl) rfl ?_
  show Z SS none mX8_blanks (d + 1) 0 0 (qI Q) 0 [some (.ref 54), none] [] μ 0 0
  refine Z_aload_n (pc' := 1) dX8_blanks_0 rfl rfl ?_
  refine Z_getI' (ji := 16) (pc' := 4) dX8_blanks_1 rfl rfl fX8_153 rfl (Or.inl dd_54) ?_
  refine Z_istore_n (pc' := 5) (lo' := [some (.ref 54), some (vi (gI μ 54 16))]) dX8_blanks_4 rfl (by decide) rfl ?_
  exact P
theorem bX8_blanks_5 {d : Nat} {Q : Int → zMem → Prop} {μ : zMem} {x1 : Int} (P : kX8_isSign d 32 μ (fun (r2 : Int) (μ1 : zMem) => (zIn r2) ∧ ((r2 = 0 → (((zIn (gI μ1 54 16)) ∧ ((zIn x1))) ∧ (Q (if (gI μ1 54 16) ≤ x1 then 0 else 1) μ1))) ∧ (¬ (r2 = 0) → (zX8_blanks_5 d Q x1 (sI μ1 54 16 ((gI μ1 54 16) + 1))))))) : zX8_blanks_5 d Q x1 μ := by
  refine Z_aload_n (pc' := 6) dX8_blanks_5 rfl rfl ?_
  refine Z_bipush (pc' := 8) dX8_blanks_6 rfl rfl ?_
  refine Z_callV0 (M' := mX8_isSign) (pc' := 11) (st := []) [vi 32] dX8_blanks_8 rfl vX8_isSign lX8_156 (Or.inl dd_54) rfl (Nat.le_of_ble_eq_true rfl) (Nat.le_refl 0) (Nat.le_refl 0) ?_
  refine Cl_mono P ?_
  rintro _ μ1 ⟨r2, rfl, P⟩
  show Z SS none mX8_blanks (d + 1) 0 0 (qI Q) 11 [some (.ref 54), some (vi x1)] [vi r2] μ1 0 0
  have h3 := P.1
  have P := P.2
  refine Z_if_eq (tgt := 27) (pc' := 14) dX8_blanks_11 (by decide) rfl h3 (fun c4 => ?_) (fun c4 => ?_)
  · have P := P.1 c4
    refine Z_aload_n (pc' := 28) dX8_blanks_27 rfl rfl ?_
    refine Z_getI' (ji := 16) (pc' := 31) dX8_blanks_28 rfl rfl fX8_153 rfl (Or.inl dd_54) ?_
    refine Z_iload_n (pc' := 32) dX8_blanks_31 rfl rfl ?_
    have K : ∀ t8 : Int, t8 = (if (gI μ1 54 16) ≤ x1 then 0 else 1) → Z SS none mX8_blanks (d + 1) 0 0 (qI Q) 40 [some (.ref 54), some (vi x1)] [vi t8] μ1 0 0 := by
      rintro _ rfl
      have P := P.2
      exact Z_zreturn dX8_blanks_40 rfl (by (repeat' split) <;> simp) (Nat.le_refl 0) (Nat.le_refl 0) P
    have G := P.1
    have h5 := G.1
    have G := G.2
    have h6 := G
    refine Z_icmp_le (tgt := 39) (pc' := 35) dX8_blanks_32 (by decide) rfl h5 h6 (fun c7 => ?_) (fun c7 => ?_)
    · refine Z_iconst (pc' := 40) dX8_blanks_39 rfl ?_
      exact K _ (by rw [if_pos c7])
    · refine Z_iconst (pc' := 36) dX8_blanks_35 rfl ?_
      refine Z_goto (tgt := 40) dX8_blanks_36 (by decide) ?_
      exact K _ (by rw [if_neg c7])
  · have P := P.2 c4
    refine Z_aload_n (pc' := 15) dX8_blanks_14 rfl rfl ?_
    refine Z_dup (pc' := 16) dX8_blanks_15 rfl rfl ?_
    refine Z_getI' (ji := 16) (pc' := 19) dX8_blanks_16 rfl rfl fX8_153 rfl (Or.inl dd_54) ?_
    refine Z_iconst (pc' := 20) dX8_blanks_19 rfl ?_
    refine Z_iadd (pc' := 21) dX8_blanks_20 rfl ?_
    refine Z_putI' (ji := 16) (pc' := 24) dX8_blanks_21 rfl rfl fX8_153 (Or.inl rfl) rfl (Or.inl dd_54) ?_
    refine Z_goto (tgt := 5) dX8_blanks_24 (by decide) ?_
    exact P
abbrev zX8_readsText_34 (d : Nat) (Q : Int → zMem → Prop) (x2 : Int) (x3 : Int) (μ : zMem) : Prop := Z SS none mX8_readsText (d + 1) 0 0 (qI Q) 34 [some (.ref 54), none, some (vi x2), some (vi x3), none, none, none] [] μ 0 0
abbrev zX8_readsText_59 (d : Nat) (Q : Int → zMem → Prop) (x2 : Int) (x4 : Int) (μ : zMem) : Prop := Z SS none mX8_readsText (d + 1) 0 0 (qI Q) 59 [some (.ref 54), none, some (vi x2), none, some (vi x4), none, none] [] μ 0 0
abbrev zX8_readsText_92 (d : Nat) (Q : Int → zMem → Prop) (x2 : Int) (x4 : Int) (x5 : Int) (μ : zMem) : Prop := Z SS none mX8_readsText (d + 1) 0 0 (qI Q) 92 [some (.ref 54), none, some (vi x2), none, some (vi x4), some (vi x5), none] [] μ 0 0
abbrev zX8_readsText_123 (d : Nat) (Q : Int → zMem → Prop) (x2 : Int) (x4 : Int) (x5 : Int) (μ : zMem) : Prop := Z SS none mX8_readsText (d + 1) 0 0 (qI Q) 123 [some (.ref 54), none, some (vi x2), none, some (vi x4), some (vi x5), none] [] μ 0 0
theorem bX8_readsText {d : Nat} {Q : Int → zMem → Prop} {μ : zMem}  (P : kX8_blanks d (sI (sI μ 54 16 0) 54 18 0) (fun (r2 : Int) (μ1 : zMem) => ((zIn (gI μ1 54 16)) ∧ ((zIn (gI μ1 54 15)))) ∧ (zX8_readsText_34 d Q 0 (if (gI μ1 54 15) ≤ (gI μ1 54 16) then 0 else 1) μ1))) : kX8_readsText (d + 1) μ Q := by
  refine Cl_of rfl (Nat.le_of_ble_eq_true rfl) rfl ?_
  show Z SS none mX8_readsText (d + 1) 0 0 (qI Q) 0 [some (.ref 54), none, none, none, none, none, none] [] μ 0 0
  refine Z_aload_n (pc' := 1) dX8_readsText_0 rfl rfl ?_
  refine Z_iconst (pc' := 2) dX8_readsText_1 rfl ?_
  refine Z_putI' (ji := 16) (pc' := 5) dX8_readsText_2 rfl rfl fX8_153 (Or.inl rfl) rfl (Or.inl dd_54) ?_
  refine Z_aload_n (pc' := 6) dX8_readsText_5 rfl rfl ?_
  refine Z_iconst (pc' := 7) dX8_readsText_6 rfl ?_
  refine Z_putI' (ji := 18) (pc' := 10) dX8_readsText_7 rfl rfl fX8_159 (Or.inl rfl) rfl (Or.inl dd_54) ?_
  refine Z_aload_n (pc' := 11) dX8_readsText_10 rfl rfl ?_
  refine Z_callV0 (M' := mX8_blanks) (pc' := 14) (st := []) [] dX8_readsText_11 rfl vX8_blanks lX8_162 (Or.inl dd_54) rfl (Nat.le_of_ble_eq_true rfl) (Nat.le_refl 0) (Nat.le_refl 0) ?_
  refine Cl_mono P ?_
  rintro _ μ1 ⟨r2, rfl, P⟩
  show Z SS none mX8_readsText (d + 1) 0 0 (qI Q) 14 [some (.ref 54), none, none, none, none, none, none] [vi r2] μ1 0 0
  refine Z_istore_n (pc' := 15) (lo' := [some (.ref 54), some (vi r2), none, none, none, none, none]) dX8_readsText_14 rfl (by decide) rfl ?_
  refine Z_iconst (pc' := 16) dX8_readsText_15 rfl ?_
  refine Z_istore_n (pc' := 17) (lo' := [some (.ref 54), some (vi r2), some (vi 0), none, none, none, none]) dX8_readsText_16 rfl (by decide) rfl ?_
  refine Z_aload_n (pc' := 18) dX8_readsText_17 rfl rfl ?_
  refine Z_getI' (ji := 16) (pc' := 21) dX8_readsText_18 rfl rfl fX8_153 rfl (Or.inl dd_54) ?_
  refine Z_aload_n (pc' := 22) dX8_readsText_21 rfl rfl ?_
  refine Z_getI' (ji := 15) (pc' := 25) dX8_readsText_22 rfl rfl fX8_150 rfl (Or.inl dd_54) ?_
  have K : ∀ t6 : Int, t6 = (if (gI μ1 54 15) ≤ (gI μ1 54 16) then 0 else 1) → Z SS none mX8_readsText (d + 1) 0 0 (qI Q) 33 [some (.ref 54), some (vi r2), some (vi 0), none, none, none, none] [vi t6] μ1 0 0 := by
    rintro _ rfl
    have P := P.2
    refine Z_istore_n (pc' := 34) (lo' := [some (.ref 54), some (vi r2), some (vi 0), some (vi (if (gI μ1 54 15) ≤ (gI μ1 54 16) then 0 else 1)), none, none, none]) dX8_readsText_33 rfl (by decide) rfl ?_
    refine Z_wk [true, false, true, true, true, true, true] rfl ?_
    exact P
  have G := P.1
  have h3 := G.1
  have G := G.2
  have h4 := G
  refine Z_icmp_ge (tgt := 32) (pc' := 28) dX8_readsText_25 (by decide) rfl h3 h4 (fun c5 => ?_) (fun c5 => ?_)
  · refine Z_iconst (pc' := 33) dX8_readsText_32 rfl ?_
    refine Z_wk [true, true, true, false, false, false, false] rfl ?_
    exact K _ (by rw [if_pos c5])
  · refine Z_iconst (pc' := 29) dX8_readsText_28 rfl ?_
    refine Z_goto (tgt := 33) dX8_readsText_29 (by decide) ?_
    refine Z_wk [true, true, true, false, false, false, false] rfl ?_
    exact K _ (by rw [if_neg c5])
theorem bX8_readsText_34 {d : Nat} {Q : Int → zMem → Prop} {μ : zMem} {x2 : Int} {x3 : Int} (P : (zIn x3) ∧ ((x3 = 0 → (Q 1 μ)) ∧ (¬ (x3 = 0) → (kX8_isLetter d μ (fun (r4 : Int) (μ3 : zMem) => (zIn r4) ∧ ((r4 = 0 → (Q 0 μ3)) ∧ (¬ (r4 = 0) → ((zIn (gI μ3 54 18)) ∧ (((gI μ3 54 18) = 14 → (Q 0 μ3)) ∧ (¬ ((gI μ3 54 18) = 14) → (zX8_readsText_59 d Q x2 0 μ3))))))))))) : zX8_readsText_34 d Q x2 x3 μ := by
  refine Z_iload_n (pc' := 35) dX8_readsText_34 rfl rfl ?_
  have h1 := P.1
  have P := P.2
  refine Z_if_eq (tgt := 271) (pc' := 38) dX8_readsText_35 (by decide) rfl h1 (fun c2 => ?_) (fun c2 => ?_)
  · have P := P.1 c2
    refine Z_iconst (pc' := 272) dX8_readsText_271 rfl ?_
    exact Z_zreturn dX8_readsText_272 rfl (Or.inr rfl) (Nat.le_refl 0) (Nat.le_refl 0) P
  · have P := P.2 c2
    refine Z_aload_n (pc' := 39) dX8_readsText_38 rfl rfl ?_
    refine Z_callV0 (M' := mX8_isLetter) (pc' := 42) (st := []) [] dX8_readsText_39 rfl vX8_isLetter lX8_166 (Or.inl dd_54) rfl (Nat.le_of_ble_eq_true rfl) (Nat.le_refl 0) (Nat.le_refl 0) ?_
    refine Cl_mono P ?_
    rintro _ μ3 ⟨r4, rfl, P⟩
    show Z SS none mX8_readsText (d + 1) 0 0 (qI Q) 42 [some (.ref 54), none, some (vi x2), some (vi x3), none, none, none] [vi r4] μ3 0 0
    have h5 := P.1
    have P := P.2
    refine Z_if_eq (tgt := 54) (pc' := 45) dX8_readsText_42 (by decide) rfl h5 (fun c6 => ?_) (fun c6 => ?_)
    · have P := P.1 c6
      refine Z_iconst (pc' := 55) dX8_readsText_54 rfl ?_
      exact Z_zreturn dX8_readsText_55 rfl (Or.inl rfl) (Nat.le_refl 0) (Nat.le_refl 0) P
    · have P := P.2 c6
      refine Z_aload_n (pc' := 46) dX8_readsText_45 rfl rfl ?_
      refine Z_getI' (ji := 18) (pc' := 49) dX8_readsText_46 rfl rfl fX8_159 rfl (Or.inl dd_54) ?_
      refine Z_bipush (pc' := 51) dX8_readsText_49 rfl rfl ?_
      have h7 := P.1
      have P := P.2
      refine Z_icmp_ne (tgt := 56) (pc' := 54) dX8_readsText_51 (by decide) rfl h7 (z_lit rfl) (fun c8 => ?_) (fun c8 => ?_)
      · have P := P.2 c8
        refine Z_iconst (pc' := 57) dX8_readsText_56 rfl ?_
        refine Z_istore (pc' := 59) (lo' := [some (.ref 54), none, some (vi x2), some (vi x3), some (vi 0), none, none]) dX8_readsText_57 rfl (by decide) rfl ?_
        refine Z_wk [true, true, true, false, true, true, true] rfl ?_
        exact P
      · have P := P.1 c8
        refine Z_iconst (pc' := 55) dX8_readsText_54 rfl ?_
        exact Z_zreturn dX8_readsText_55 rfl (Or.inl rfl) (Nat.le_refl 0) (Nat.le_refl 0) P
theorem bX8_readsText_59 {d : Nat} {Q : Int → zMem → Prop} {μ : zMem} {x2 : Int} {x4 : Int} (P : kX8_isLetter d μ (fun (r2 : Int) (μ1 : zMem) => (zIn r2) ∧ ((r2 = 0 → (zX8_readsText_92 d Q x2 x4 1 μ1)) ∧ (¬ (r2 = 0) → ((zIn x4) ∧ ((12 ≤ x4 → (zX8_readsText_92 d Q x2 x4 1 μ1)) ∧ (¬ (12 ≤ x4) → (zX8_readsText_59 d Q x2 (x4 + 1) (sI μ1 54 16 ((gI μ1 54 16) + 1)))))))))) : zX8_readsText_59 d Q x2 x4 μ := by
  refine Z_aload_n (pc' := 60) dX8_readsText_59 rfl rfl ?_
  refine Z_callV0 (M' := mX8_isLetter) (pc' := 63) (st := []) [] dX8_readsText_60 rfl vX8_isLetter lX8_166 (Or.inl dd_54) rfl (Nat.le_of_ble_eq_true rfl) (Nat.le_refl 0) (Nat.le_refl 0) ?_
  refine Cl_mono P ?_
  rintro _ μ1 ⟨r2, rfl, P⟩
  show Z SS none mX8_readsText (d + 1) 0 0 (qI Q) 63 [some (.ref 54), none, some (vi x2), none, some (vi x4), none, none] [vi r2] μ1 0 0
  have h3 := P.1
  have P := P.2
  refine Z_if_eq (tgt := 89) (pc' := 66) dX8_readsText_63 (by decide) rfl h3 (fun c4 => ?_) (fun c4 => ?_)
  · have P := P.1 c4
    refine Z_iconst (pc' := 90) dX8_readsText_89 rfl ?_
    refine Z_istore (pc' := 92) (lo' := [some (.ref 54), none, some (vi x2), none, some (vi x4), some (vi 1), none]) dX8_readsText_90 rfl (by decide) rfl ?_
    exact P
  · have P := P.2 c4
    refine Z_iload (pc' := 68) dX8_readsText_66 rfl rfl ?_
    refine Z_bipush (pc' := 70) dX8_readsText_68 rfl rfl ?_
    have h5 := P.1
    have P := P.2
    refine Z_icmp_ge (tgt := 89) (pc' := 73) dX8_readsText_70 (by decide) rfl h5 (z_lit rfl) (fun c6 => ?_) (fun c6 => ?_)
    · have P := P.1 c6
      refine Z_iconst (pc' := 90) dX8_readsText_89 rfl ?_
      refine Z_istore (pc' := 92) (lo' := [some (.ref 54), none, some (vi x2), none, some (vi x4), some (vi 1), none]) dX8_readsText_90 rfl (by decide) rfl ?_
      exact P
    · have P := P.2 c6
      refine Z_aload_n (pc' := 74) dX8_readsText_73 rfl rfl ?_
      refine Z_dup (pc' := 75) dX8_readsText_74 rfl rfl ?_
      refine Z_getI' (ji := 16) (pc' := 78) dX8_readsText_75 rfl rfl fX8_153 rfl (Or.inl dd_54) ?_
      refine Z_iconst (pc' := 79) dX8_readsText_78 rfl ?_
      refine Z_iadd (pc' := 80) dX8_readsText_79 rfl ?_
      refine Z_putI' (ji := 16) (pc' := 83) dX8_readsText_80 rfl rfl fX8_153 (Or.inl rfl) rfl (Or.inl dd_54) ?_
      refine Z_iinc (pc' := 86) (lo' := [some (.ref 54), none, some (vi x2), none, some (vi (x4 + 1)), none, none]) dX8_readsText_83 rfl (by decide) rfl rfl ?_
      refine Z_goto (tgt := 59) dX8_readsText_86 (by decide) ?_
      exact P
theorem bX8_readsText_92 {d : Nat} {Q : Int → zMem → Prop} {μ : zMem} {x2 : Int} {x4 : Int} {x5 : Int} (P : kX8_isSign d 33 μ (fun (r2 : Int) (μ1 : zMem) => (zIn r2) ∧ ((r2 = 0 → (zX8_readsText_123 d Q x2 x4 x5 μ1)) ∧ (¬ (r2 = 0) → ((zIn x5) ∧ ((3 ≤ x5 → (zX8_readsText_123 d Q x2 x4 x5 μ1)) ∧ (¬ (3 ≤ x5) → (zX8_readsText_92 d Q x2 x4 (x5 + 1) (sI μ1 54 16 ((gI μ1 54 16) + 1)))))))))) : zX8_readsText_92 d Q x2 x4 x5 μ := by
  refine Z_aload_n (pc' := 93) dX8_readsText_92 rfl rfl ?_
  refine Z_bipush (pc' := 95) dX8_readsText_93 rfl rfl ?_
  refine Z_callV0 (M' := mX8_isSign) (pc' := 98) (st := []) [vi 33] dX8_readsText_95 rfl vX8_isSign lX8_156 (Or.inl dd_54) rfl (Nat.le_of_ble_eq_true rfl) (Nat.le_refl 0) (Nat.le_refl 0) ?_
  refine Cl_mono P ?_
  rintro _ μ1 ⟨r2, rfl, P⟩
  show Z SS none mX8_readsText (d + 1) 0 0 (qI Q) 98 [some (.ref 54), none, some (vi x2), none, some (vi x4), some (vi x5), none] [vi r2] μ1 0 0
  have h3 := P.1
  have P := P.2
  refine Z_if_eq (tgt := 123) (pc' := 101) dX8_readsText_98 (by decide) rfl h3 (fun c4 => ?_) (fun c4 => ?_)
  · have P := P.1 c4
    exact P
  · have P := P.2 c4
    refine Z_iload (pc' := 103) dX8_readsText_101 rfl rfl ?_
    refine Z_iconst (pc' := 104) dX8_readsText_103 rfl ?_
    have h5 := P.1
    have P := P.2
    refine Z_icmp_ge (tgt := 123) (pc' := 107) dX8_readsText_104 (by decide) rfl h5 (z_lit rfl) (fun c6 => ?_) (fun c6 => ?_)
    · have P := P.1 c6
      exact P
    · have P := P.2 c6
      refine Z_aload_n (pc' := 108) dX8_readsText_107 rfl rfl ?_
      refine Z_dup (pc' := 109) dX8_readsText_108 rfl rfl ?_
      refine Z_getI' (ji := 16) (pc' := 112) dX8_readsText_109 rfl rfl fX8_153 rfl (Or.inl dd_54) ?_
      refine Z_iconst (pc' := 113) dX8_readsText_112 rfl ?_
      refine Z_iadd (pc' := 114) dX8_readsText_113 rfl ?_
      refine Z_putI' (ji := 16) (pc' := 117) dX8_readsText_114 rfl rfl fX8_153 (Or.inl rfl) rfl (Or.inl dd_54) ?_
      refine Z_iinc (pc' := 120) (lo' := [some (.ref 54), none, some (vi x2), none, some (vi x4), some (vi (x5 + 1)), none]) dX8_readsText_117 rfl (by decide) rfl rfl ?_
      refine Z_goto (tgt := 92) dX8_readsText_120 (by decide) ?_
      exact P
theorem bX8_readsText_123 {d : Nat} {Q : Int → zMem → Prop} {μ : zMem} {x2 : Int} {x4 : Int} {x5 : Int} (P : (0 ≤ (3 * (gI μ 54 18))) ∧ (((3 * (gI μ 54 18)) < 42) ∧ ((0 ≤ ((3 * (gI (sI μ 64 (3 * (gI μ 54 18)) x4) 54 18)) + 1)) ∧ ((((3 * (gI (sI μ 64 (3 * (gI μ 54 18)) x4) 54 18)) + 1) < 42) ∧ (((zIn x2)) ∧ ((0 ≤ ((3 * (gI (sI (sI μ 64 (3 * (gI μ 54 18)) x4) 64 ((3 * (gI (sI μ 64 (3 * (gI μ 54 18)) x4) 54 18)) + 1) x5) 54 18)) + 2)) ∧ ((((3 * (gI (sI (sI μ 64 (3 * (gI μ 54 18)) x4) 64 ((3 * (gI (sI μ 64 (3 * (gI μ 54 18)) x4) 54 18)) + 1) x5) 54 18)) + 2) < 42) ∧ (kX8_blanks d (sI (sI (sI (sI μ 64 (3 * (gI μ 54 18)) x4) 64 ((3 * (gI (sI μ 64 (3 * (gI μ 54 18)) x4) 54 18)) + 1) x5) 64 ((3 * (gI (sI (sI μ 64 (3 * (gI μ 54 18)) x4) 64 ((3 * (gI (sI μ 64 (3 * (gI μ 54 18)) x4) 54 18)) + 1) x5) 54 18)) + 2) (if x2 = 0 then 0 else 1)) 54 18 ((gI (sI (sI (sI μ 64 (3 * (gI μ 54 18)) x4) 64 ((3 * (gI (sI μ 64 (3 * (gI μ 54 18)) x4) 54 18)) + 1) x5) 64 ((3 * (gI (sI (sI μ 64 (3 * (gI μ 54 18)) x4) 64 ((3 * (gI (sI μ 64 (3 * (gI μ 54 18)) x4) 54 18)) + 1) x5) 54 18)) + 2) (if x2 = 0 then 0 else 1)) 54 18) + 1)) (fun (r11 : Int) (μ10 : zMem) => kX8_isSign d 47 μ10 (fun (r13 : Int) (μ12 : zMem) => ((zIn r13)) ∧ (kX8_blanks d (sI μ12 54 16 ((gI μ12 54 16) + (if r13 = 0 then 0 else 1))) (fun (r18 : Int) (μ17 : zMem) => (zIn r13) ∧ ((r13 = 0 → (((zIn (gI μ17 54 16)) ∧ ((zIn (gI μ17 54 15)))) ∧ ((((if (gI μ17 54 15) ≤ (gI μ17 54 16) then 0 else 1) : Int) = 0 → (zX8_readsText_34 d Q r13 (if (gI μ17 54 15) ≤ (gI μ17 54 16) then 0 else 1) μ17)) ∧ (¬ (((if (gI μ17 54 15) ≤ (gI μ17 54 16) then 0 else 1) : Int) = 0) → ((zIn r11) ∧ ((r11 = 0 → ((r13 = 0 → (Q 0 μ17)) ∧ (¬ (r13 = 0) → (zX8_readsText_34 d Q r13 (if (gI μ17 54 15) ≤ (gI μ17 54 16) then 0 else 1) μ17)))) ∧ (¬ (r11 = 0) → (zX8_readsText_34 d Q r13 (if (gI μ17 54 15) ≤ (gI μ17 54 16) then 0 else 1) μ17)))))))) ∧ (¬ (r13 = 0) → ((zIn (gI μ17 54 16)) ∧ ((zIn (gI μ17 54 15)) ∧ (((gI μ17 54 16) = (gI μ17 54 15) → (Q 0 μ17)) ∧ (¬ ((gI μ17 54 16) = (gI μ17 54 15)) → ((((if (gI μ17 54 15) ≤ (gI μ17 54 16) then 0 else 1) : Int) = 0 → (zX8_readsText_34 d Q r13 (if (gI μ17 54 15) ≤ (gI μ17 54 16) then 0 else 1) μ17)) ∧ (¬ (((if (gI μ17 54 15) ≤ (gI μ17 54 16) then 0 else 1) : Int) = 0) → ((zIn r11) ∧ ((r11 = 0 → ((r13 = 0 → (Q 0 μ17)) ∧ (¬ (r13 = 0) → (zX8_readsText_34 d Q r13 (if (gI μ17 54 15) ≤ (gI μ17 54 16) then 0 else 1) μ17)))) ∧ (¬ (r11 = 0) → (zX8_readsText_34 d Q r13 (if (gI μ17 54 15) ≤ (gI μ17 54 16) then 0 else 1) μ17)))))))))))))))))))))))) : zX8_readsText_123 d Q x2 x4 x5 μ := by
  refine Z_aload_n (pc' := 124) dX8_readsText_123 rfl rfl ?_
  refine Z_getR (q := 64) (pc' := 127) dX8_readsText_124 rfl fX8_38 rfl (Or.inl dd_54) (Or.inl rr_54_17) ?_
  refine Z_iconst (pc' := 128) dX8_readsText_127 rfl ?_
  refine Z_aload_n (pc' := 129) dX8_readsText_128 rfl rfl ?_
  refine Z_getI' (ji := 18) (pc' := 132) dX8_readsText_129 rfl rfl fX8_159 rfl (Or.inl dd_54) ?_
  refine Z_imul (pc' := 133) dX8_readsText_132 rfl ?_
  refine Z_iload (pc' := 135) dX8_readsText_133 rfl rfl ?_
  have h1 := P.1
  have P := P.2
  have h2 := P.1
  have P := P.2
  refine Z_iastore (pc' := 136) dX8_readsText_135 rfl (Or.inl dd_64) (Nat.le_of_ble_eq_true rfl) h1 h2 ?_
  refine Z_aload_n (pc' := 137) dX8_readsText_136 rfl rfl ?_
  refine Z_getR (q := 64) (pc' := 140) dX8_readsText_137 rfl fX8_38 rfl (Or.inl dd_54) (Or.inl rr_54_17) ?_
  refine Z_iconst (pc' := 141) dX8_readsText_140 rfl ?_
  refine Z_aload_n (pc' := 142) dX8_readsText_141 rfl rfl ?_
  refine Z_getI' (ji := 18) (pc' := 145) dX8_readsText_142 rfl rfl fX8_159 rfl (Or.inl dd_54) ?_
  refine Z_imul (pc' := 146) dX8_readsText_145 rfl ?_
  refine Z_iconst (pc' := 147) dX8_readsText_146 rfl ?_
  refine Z_iadd (pc' := 148) dX8_readsText_147 rfl ?_
  refine Z_iload (pc' := 150) dX8_readsText_148 rfl rfl ?_
  have h3 := P.1
  have P := P.2
  have h4 := P.1
  have P := P.2
  refine Z_iastore (pc' := 151) dX8_readsText_150 rfl (Or.inl dd_64) (Nat.le_of_ble_eq_true rfl) h3 h4 ?_
  refine Z_aload_n (pc' := 152) dX8_readsText_151 rfl rfl ?_
  refine Z_getR (q := 64) (pc' := 155) dX8_readsText_152 rfl fX8_38 rfl (Or.inl dd_54) (Or.inl rr_54_17) ?_
  refine Z_iconst (pc' := 156) dX8_readsText_155 rfl ?_
  refine Z_aload_n (pc' := 157) dX8_readsText_156 rfl rfl ?_
  refine Z_getI' (ji := 18) (pc' := 160) dX8_readsText_157 rfl rfl fX8_159 rfl (Or.inl dd_54) ?_
  refine Z_imul (pc' := 161) dX8_readsText_160 rfl ?_
  refine Z_iconst (pc' := 162) dX8_readsText_161 rfl ?_
  refine Z_iadd (pc' := 163) dX8_readsText_162 rfl ?_
  refine Z_iload_n (pc' := 164) dX8_readsText_163 rfl rfl ?_
  have K : ∀ t7 : Int, t7 = (if x2 = 0 then 0 else 1) → Z SS none mX8_readsText (d + 1) 0 0 (qI Q) 172 [some (.ref 54), none, some (vi x2), none, some (vi x4), some (vi x5), none] [vi t7, vi ((3 * (gI (sI (sI μ 64 (3 * (gI μ 54 18)) x4) 64 ((3 * (gI (sI μ 64 (3 * (gI μ 54 18)) x4) 54 18)) + 1) x5) 54 18)) + 2), .ref 64] (sI (sI μ 64 (3 * (gI μ 54 18)) x4) 64 ((3 * (gI (sI μ 64 (3 * (gI μ 54 18)) x4) 54 18)) + 1) x5) 0 0 := by
    rintro _ rfl
    have P := P.2
    have h8 := P.1
    have P := P.2
    have h9 := P.1
    have P := P.2
    refine Z_iastore (pc' := 173) dX8_readsText_172 rfl (Or.inl dd_64) (Nat.le_of_ble_eq_true rfl) h8 h9 ?_
    refine Z_aload_n (pc' := 174) dX8_readsText_173 rfl rfl ?_
    refine Z_dup (pc' := 175) dX8_readsText_174 rfl rfl ?_
    refine Z_getI' (ji := 18) (pc' := 178) dX8_readsText_175 rfl rfl fX8_159 rfl (Or.inl dd_54) ?_
    refine Z_iconst (pc' := 179) dX8_readsText_178 rfl ?_
    refine Z_iadd (pc' := 180) dX8_readsText_179 rfl ?_
    refine Z_putI' (ji := 18) (pc' := 183) dX8_readsText_180 rfl rfl fX8_159 (Or.inl rfl) rfl (Or.inl dd_54) ?_
    refine Z_aload_n (pc' := 184) dX8_readsText_183 rfl rfl ?_
    refine Z_callV0 (M' := mX8_blanks) (pc' := 187) (st := []) [] dX8_readsText_184 rfl vX8_blanks lX8_162 (Or.inl dd_54) rfl (Nat.le_of_ble_eq_true rfl) (Nat.le_refl 0) (Nat.le_refl 0) ?_
    refine Cl_mono P ?_
    rintro _ μ10 ⟨r11, rfl, P⟩
    show Z SS none mX8_readsText (d + 1) 0 0 (qI Q) 187 [some (.ref 54), none, some (vi x2), none, some (vi x4), some (vi x5), none] [vi r11] μ10 0 0
    refine Z_istore (pc' := 189) (lo' := [some (.ref 54), none, some (vi x2), none, some (vi x4), some (vi x5), some (vi r11)]) dX8_readsText_187 rfl (by decide) rfl ?_
    refine Z_aload_n (pc' := 190) dX8_readsText_189 rfl rfl ?_
    refine Z_bipush (pc' := 192) dX8_readsText_190 rfl rfl ?_
    refine Z_callV0 (M' := mX8_isSign) (pc' := 195) (st := []) [vi 47] dX8_readsText_192 rfl vX8_isSign lX8_156 (Or.inl dd_54) rfl (Nat.le_of_ble_eq_true rfl) (Nat.le_refl 0) (Nat.le_refl 0) ?_
    refine Cl_mono P ?_
    rintro _ μ12 ⟨r13, rfl, P⟩
    show Z SS none mX8_readsText (d + 1) 0 0 (qI Q) 195 [some (.ref 54), none, some (vi x2), none, some (vi x4), some (vi x5), some (vi r11)] [vi r13] μ12 0 0
    refine Z_istore_n (pc' := 196) (lo' := [some (.ref 54), none, some (vi r13), none, some (vi x4), some (vi x5), some (vi r11)]) dX8_readsText_195 rfl (by decide) rfl ?_
    refine Z_aload_n (pc' := 197) dX8_readsText_196 rfl rfl ?_
    refine Z_dup (pc' := 198) dX8_readsText_197 rfl rfl ?_
    refine Z_getI' (ji := 16) (pc' := 201) dX8_readsText_198 rfl rfl fX8_153 rfl (Or.inl dd_54) ?_
    refine Z_iload_n (pc' := 202) dX8_readsText_201 rfl rfl ?_
    have K : ∀ t16 : Int, t16 = (if r13 = 0 then 0 else 1) → Z SS none mX8_readsText (d + 1) 0 0 (qI Q) 210 [some (.ref 54), none, some (vi r13), none, some (vi x4), some (vi x5), some (vi r11)] [vi t16, vi (gI μ12 54 16), .ref 54] μ12 0 0 := by
      rintro _ rfl
      have P := P.2
      refine Z_iadd (pc' := 211) dX8_readsText_210 rfl ?_
      refine Z_putI' (ji := 16) (pc' := 214) dX8_readsText_211 rfl rfl fX8_153 (Or.inl rfl) rfl (Or.inl dd_54) ?_
      refine Z_aload_n (pc' := 215) dX8_readsText_214 rfl rfl ?_
      refine Z_callV0 (M' := mX8_blanks) (pc' := 218) (st := []) [] dX8_readsText_215 rfl vX8_blanks lX8_162 (Or.inl dd_54) rfl (Nat.le_of_ble_eq_true rfl) (Nat.le_refl 0) (Nat.le_refl 0) ?_
      refine Cl_mono P ?_
      rintro _ μ17 ⟨r18, rfl, P⟩
      show Z SS none mX8_readsText (d + 1) 0 0 (qI Q) 218 [some (.ref 54), none, some (vi r13), none, some (vi x4), some (vi x5), some (vi r11)] [vi r18] μ17 0 0
      refine Z_istore_n (pc' := 219) (lo' := [some (.ref 54), some (vi r18), some (vi r13), none, some (vi x4), some (vi x5), some (vi r11)]) dX8_readsText_218 rfl (by decide) rfl ?_
      refine Z_iload_n (pc' := 220) dX8_readsText_219 rfl rfl ?_
      have h19 := P.1
      have P := P.2
      refine Z_if_eq (tgt := 236) (pc' := 223) dX8_readsText_220 (by decide) rfl h19 (fun c20 => ?_) (fun c20 => ?_)
      · have P := P.1 c20
        refine Z_aload_n (pc' := 237) dX8_readsText_236 rfl rfl ?_
        refine Z_getI' (ji := 16) (pc' := 240) dX8_readsText_237 rfl rfl fX8_153 rfl (Or.inl dd_54) ?_
        refine Z_aload_n (pc' := 241) dX8_readsText_240 rfl rfl ?_
        refine Z_getI' (ji := 15) (pc' := 244) dX8_readsText_241 rfl rfl fX8_150 rfl (Or.inl dd_54) ?_
        have K : ∀ t24 : Int, t24 = (if (gI μ17 54 15) ≤ (gI μ17 54 16) then 0 else 1) → Z SS none mX8_readsText (d + 1) 0 0 (qI Q) 252 [some (.ref 54), some (vi r18), some (vi r13), none, some (vi x4), some (vi x5), some (vi r11)] [vi t24] μ17 0 0 := by
          rintro _ rfl
          have P := P.2
          refine Z_istore_n (pc' := 253) (lo' := [some (.ref 54), some (vi r18), some (vi r13), some (vi (if (gI μ17 54 15) ≤ (gI μ17 54 16) then 0 else 1)), some (vi x4), some (vi x5), some (vi r11)]) dX8_readsText_252 rfl (by decide) rfl ?_
          refine Z_iload_n (pc' := 254) dX8_readsText_253 rfl rfl ?_
          refine Z_if_eq (tgt := 268) (pc' := 257) dX8_readsText_254 (by decide) rfl (by (repeat' split) <;> exact z_lit rfl) (fun c25 => ?_) (fun c25 => ?_)
          · have P := P.1 c25
            refine Z_goto (tgt := 34) dX8_readsText_268 (by decide) ?_
            refine Z_wk [true, false, true, true, false, false, false] rfl ?_
            exact P
          · have P := P.2 c25
            refine Z_iload (pc' := 259) dX8_readsText_257 rfl rfl ?_
            have h26 := P.1
            have P := P.2
            refine Z_if_ne (tgt := 268) (pc' := 262) dX8_readsText_259 (by decide) rfl h26 (fun c27 => ?_) (fun c27 => ?_)
            · have P := P.2 c27
              refine Z_goto (tgt := 34) dX8_readsText_268 (by decide) ?_
              refine Z_wk [true, false, true, true, false, false, false] rfl ?_
              exact P
            · have P := P.1 c27
              refine Z_iload_n (pc' := 263) dX8_readsText_262 rfl rfl ?_
              refine Z_if_ne (tgt := 268) (pc' := 266) dX8_readsText_263 (by decide) rfl h19 (fun c28 => ?_) (fun c28 => ?_)
              · have P := P.2 c28
                refine Z_goto (tgt := 34) dX8_readsText_268 (by decide) ?_
                refine Z_wk [true, false, true, true, false, false, false] rfl ?_
                exact P
              · have P := P.1 c28
                refine Z_iconst (pc' := 267) dX8_readsText_266 rfl ?_
                exact Z_zreturn dX8_readsText_267 rfl (Or.inl rfl) (Nat.le_refl 0) (Nat.le_refl 0) P
        have G := P.1
        have h21 := G.1
        have G := G.2
        have h22 := G
        refine Z_icmp_ge (tgt := 251) (pc' := 247) dX8_readsText_244 (by decide) rfl h21 h22 (fun c23 => ?_) (fun c23 => ?_)
        · refine Z_iconst (pc' := 252) dX8_readsText_251 rfl ?_
          refine Z_wk [true, true, true, false, true, true, true] rfl ?_
          exact K _ (by rw [if_pos c23])
        · refine Z_iconst (pc' := 248) dX8_readsText_247 rfl ?_
          refine Z_goto (tgt := 252) dX8_readsText_248 (by decide) ?_
          refine Z_wk [true, true, true, false, true, true, true] rfl ?_
          exact K _ (by rw [if_neg c23])
      · have P := P.2 c20
        refine Z_aload_n (pc' := 224) dX8_readsText_223 rfl rfl ?_
        refine Z_getI' (ji := 16) (pc' := 227) dX8_readsText_224 rfl rfl fX8_153 rfl (Or.inl dd_54) ?_
        refine Z_aload_n (pc' := 228) dX8_readsText_227 rfl rfl ?_
        refine Z_getI' (ji := 15) (pc' := 231) dX8_readsText_228 rfl rfl fX8_150 rfl (Or.inl dd_54) ?_
        have h29 := P.1
        have P := P.2
        have h30 := P.1
        have P := P.2
        refine Z_icmp_ne (tgt := 236) (pc' := 234) dX8_readsText_231 (by decide) rfl h29 h30 (fun c31 => ?_) (fun c31 => ?_)
        · have P := P.2 c31
          refine Z_aload_n (pc' := 237) dX8_readsText_236 rfl rfl ?_
          refine Z_getI' (ji := 16) (pc' := 240) dX8_readsText_237 rfl rfl fX8_153 rfl (Or.inl dd_54) ?_
          refine Z_aload_n (pc' := 241) dX8_readsText_240 rfl rfl ?_
          refine Z_getI' (ji := 15) (pc' := 244) dX8_readsText_241 rfl rfl fX8_150 rfl (Or.inl dd_54) ?_
          have K : ∀ t33 : Int, t33 = (if (gI μ17 54 15) ≤ (gI μ17 54 16) then 0 else 1) → Z SS none mX8_readsText (d + 1) 0 0 (qI Q) 252 [some (.ref 54), some (vi r18), some (vi r13), none, some (vi x4), some (vi x5), some (vi r11)] [vi t33] μ17 0 0 := by
            rintro _ rfl
            refine Z_istore_n (pc' := 253) (lo' := [some (.ref 54), some (vi r18), some (vi r13), some (vi (if (gI μ17 54 15) ≤ (gI μ17 54 16) then 0 else 1)), some (vi x4), some (vi x5), some (vi r11)]) dX8_readsText_252 rfl (by decide) rfl ?_
            refine Z_iload_n (pc' := 254) dX8_readsText_253 rfl rfl ?_
            refine Z_if_eq (tgt := 268) (pc' := 257) dX8_readsText_254 (by decide) rfl (by (repeat' split) <;> exact z_lit rfl) (fun c34 => ?_) (fun c34 => ?_)
            · have P := P.1 c34
              refine Z_goto (tgt := 34) dX8_readsText_268 (by decide) ?_
              refine Z_wk [true, false, true, true, false, false, false] rfl ?_
              exact P
            · have P := P.2 c34
              refine Z_iload (pc' := 259) dX8_readsText_257 rfl rfl ?_
              have h35 := P.1
              have P := P.2
              refine Z_if_ne (tgt := 268) (pc' := 262) dX8_readsText_259 (by decide) rfl h35 (fun c36 => ?_) (fun c36 => ?_)
              · have P := P.2 c36
                refine Z_goto (tgt := 34) dX8_readsText_268 (by decide) ?_
                refine Z_wk [true, false, true, true, false, false, false] rfl ?_
                exact P
              · have P := P.1 c36
                refine Z_iload_n (pc' := 263) dX8_readsText_262 rfl rfl ?_
                refine Z_if_ne (tgt := 268) (pc' := 266) dX8_readsText_263 (by decide) rfl h19 (fun c37 => ?_) (fun c37 => ?_)
                · have P := P.2 c37
                  refine Z_goto (tgt := 34) dX8_readsText_268 (by decide) ?_
                  refine Z_wk [true, false, true, true, false, false, false] rfl ?_
                  exact P
                · have P := P.1 c37
                  refine Z_iconst (pc' := 267) dX8_readsText_266 rfl ?_
                  exact Z_zreturn dX8_readsText_267 rfl (Or.inl rfl) (Nat.le_refl 0) (Nat.le_refl 0) P
          refine Z_icmp_ge (tgt := 251) (pc' := 247) dX8_readsText_244 (by decide) rfl h29 h30 (fun c32 => ?_) (fun c32 => ?_)
          · refine Z_iconst (pc' := 252) dX8_readsText_251 rfl ?_
            refine Z_wk [true, true, true, false, true, true, true] rfl ?_
            exact K _ (by rw [if_pos c32])
          · refine Z_iconst (pc' := 248) dX8_readsText_247 rfl ?_
            refine Z_goto (tgt := 252) dX8_readsText_248 (by decide) ?_
            refine Z_wk [true, true, true, false, true, true, true] rfl ?_
            exact K _ (by rw [if_neg c32])
        · have P := P.1 c31
          refine Z_iconst (pc' := 235) dX8_readsText_234 rfl ?_
          exact Z_zreturn dX8_readsText_235 rfl (Or.inl rfl) (Nat.le_refl 0) (Nat.le_refl 0) P
    have G := P.1
    have h14 := G
    refine Z_if_eq (tgt := 209) (pc' := 205) dX8_readsText_202 (by decide) rfl h14 (fun c15 => ?_) (fun c15 => ?_)
    · refine Z_iconst (pc' := 210) dX8_readsText_209 rfl ?_
      refine Z_wk [true, false, true, false, true, true, true] rfl ?_
      exact K _ (by rw [if_pos c15])
    · refine Z_iconst (pc' := 206) dX8_readsText_205 rfl ?_
      refine Z_goto (tgt := 210) dX8_readsText_206 (by decide) ?_
      refine Z_wk [true, false, true, false, true, true, true] rfl ?_
      exact K _ (by rw [if_neg c15])
  have G := P.1
  have h5 := G
  refine Z_if_eq (tgt := 171) (pc' := 167) dX8_readsText_164 (by decide) rfl h5 (fun c6 => ?_) (fun c6 => ?_)
  · refine Z_iconst (pc' := 172) dX8_readsText_171 rfl ?_
    refine Z_wk [true, false, true, false, true, true, false] rfl ?_
    exact K _ (by rw [if_pos c6])
  · refine Z_iconst (pc' := 168) dX8_readsText_167 rfl ?_
    refine Z_goto (tgt := 172) dX8_readsText_168 (by decide) ?_
    refine Z_wk [true, false, true, false, true, true, false] rfl ?_
    exact K _ (by rw [if_neg c6])
theorem bX8_textFault {d : Nat} {Q : Int → zMem → Prop} {μ : zMem}  (P : kX8_readsText d μ (fun (r2 : Int) (μ1 : zMem) => ((zIn r2)) ∧ (Q (if r2 = 0 then (gI μ1 54 16) else (-1)) μ1))) : kX8_textFault (d + 1) μ Q := by
  refine Cl_of rfl (Nat.le_of_ble_eq_true rfl) rfl ?_
  show Z SS none mX8_textFault (d + 1) 0 0 (qI Q) 0 [some (.ref 54)] [] μ 0 0
  refine Z_aload_n (pc' := 1) dX8_textFault_0 rfl rfl ?_
  refine Z_callV0 (M' := mX8_readsText) (pc' := 4) (st := []) [] dX8_textFault_1 rfl vX8_readsText lX8_169 (Or.inl dd_54) rfl (Nat.le_of_ble_eq_true rfl) (Nat.le_refl 0) (Nat.le_refl 0) ?_
  refine Cl_mono P ?_
  rintro _ μ1 ⟨r2, rfl, P⟩
  show Z SS none mX8_textFault (d + 1) 0 0 (qI Q) 4 [some (.ref 54)] [vi r2] μ1 0 0
  have K : ∀ t5 : Int, t5 = (if r2 = 0 then (gI μ1 54 16) else (-1)) → Z SS none mX8_textFault (d + 1) 0 0 (qI Q) 15 [some (.ref 54)] [vi t5] μ1 0 0 := by
    rintro _ rfl
    have P := P.2
    exact Z_ireturn dX8_textFault_15 rfl (Nat.le_refl 0) (Nat.le_refl 0) P
  have G := P.1
  have h3 := G
  refine Z_if_eq (tgt := 11) (pc' := 7) dX8_textFault_4 (by decide) rfl h3 (fun c4 => ?_) (fun c4 => ?_)
  · refine Z_aload_n (pc' := 12) dX8_textFault_11 rfl rfl ?_
    refine Z_getI' (ji := 16) (pc' := 15) dX8_textFault_12 rfl rfl fX8_153 rfl (Or.inl dd_54) ?_
    exact K _ (by rw [if_pos c4])
  · refine Z_iconst (pc' := 8) dX8_textFault_7 rfl ?_
    refine Z_goto (tgt := 15) dX8_textFault_8 (by decide) ?_
    exact K _ (by rw [if_neg c4])
abbrev zX8_load_27 (d : Nat) (Q : Int → zMem → Prop) (x1 : Int) (μ : zMem) : Prop := Z SS none mX8_load (d + 1) 0 0 (qI Q) 27 [some (.ref 54), some (vi x1)] [] μ 0 0
theorem bX8_load {d : Nat} {Q : Int → zMem → Prop} {μ : zMem}  (P : kX8_readsText d μ (fun (r2 : Int) (μ1 : zMem) => (zIn r2) ∧ ((r2 = 0 → (Q (-4) μ1)) ∧ (¬ (r2 = 0) → (kX8_records d μ1 (fun μ5 : zMem => zX8_load_27 d Q 0 (sI μ5 55 31 (gI μ5 54 18)))))))) : kX8_load (d + 1) μ Q := by
  refine Cl_of rfl (Nat.le_of_ble_eq_true rfl) rfl ?_
  show Z SS none mX8_load (d + 1) 0 0 (qI Q) 0 [some (.ref 54), none] [] μ 0 0
  refine Z_aload_n (pc' := 1) dX8_load_0 rfl rfl ?_
  refine Z_callV0 (M' := mX8_readsText) (pc' := 4) (st := []) [] dX8_load_1 rfl vX8_readsText lX8_169 (Or.inl dd_54) rfl (Nat.le_of_ble_eq_true rfl) (Nat.le_refl 0) (Nat.le_refl 0) ?_
  refine Cl_mono P ?_
  rintro _ μ1 ⟨r2, rfl, P⟩
  show Z SS none mX8_load (d + 1) 0 0 (qI Q) 4 [some (.ref 54), none] [vi r2] μ1 0 0
  have h3 := P.1
  have P := P.2
  refine Z_if_ne (tgt := 10) (pc' := 7) dX8_load_4 (by decide) rfl h3 (fun c4 => ?_) (fun c4 => ?_)
  · have P := P.2 c4
    refine Z_aload_n (pc' := 11) dX8_load_10 rfl rfl ?_
    refine Z_callV0 (M' := mX8_records) (pc' := 14) (st := []) [] dX8_load_11 rfl vX8_records lX8_68 (Or.inl dd_54) rfl (Nat.le_of_ble_eq_true rfl) (Nat.le_refl 0) (Nat.le_refl 0) ?_
    refine Cl_mono P ?_
    rintro _ μ5 ⟨rfl, P⟩
    show Z SS none mX8_load (d + 1) 0 0 (qI Q) 14 [some (.ref 54), none] [] μ5 0 0
    refine Z_aload_n (pc' := 15) dX8_load_14 rfl rfl ?_
    refine Z_getR (q := 55) (pc' := 18) dX8_load_15 rfl fX8_7 rfl (Or.inl dd_54) (Or.inl rr_54_0) ?_
    refine Z_bipush (pc' := 20) dX8_load_18 rfl rfl ?_
    refine Z_aload_n (pc' := 21) dX8_load_20 rfl rfl ?_
    refine Z_getI' (ji := 18) (pc' := 24) dX8_load_21 rfl rfl fX8_159 rfl (Or.inl dd_54) ?_
    refine Z_iastore (pc' := 25) dX8_load_24 rfl (Or.inl dd_55) (Nat.le_of_ble_eq_true rfl) (by decide) (by decide) ?_
    refine Z_iconst (pc' := 26) dX8_load_25 rfl ?_
    refine Z_istore_n (pc' := 27) (lo' := [some (.ref 54), some (vi 0)]) dX8_load_26 rfl (by decide) rfl ?_
    exact P
  · have P := P.1 c4
    refine Z_bipush (pc' := 9) dX8_load_7 rfl rfl ?_
    exact Z_ireturn dX8_load_9 rfl (Nat.le_refl 0) (Nat.le_refl 0) P
theorem bX8_load_27 {d : Nat} {Q : Int → zMem → Prop} {μ : zMem} {x1 : Int} (P : (zIn x1) ∧ ((zIn (3 * (gI μ 54 18))) ∧ (((3 * (gI μ 54 18)) ≤ x1 → (Q (gI μ 54 18) μ)) ∧ (¬ ((3 * (gI μ 54 18)) ≤ x1) → ((0 ≤ x1) ∧ ((x1 < 42) ∧ ((0 ≤ (32 + x1)) ∧ (((32 + x1) < 1285) ∧ (zX8_load_27 d Q (x1 + 1) (sI μ 55 (32 + x1) (gI μ 64 x1))))))))))) : zX8_load_27 d Q x1 μ := by
  refine Z_iload_n (pc' := 28) dX8_load_27 rfl rfl ?_
  refine Z_iconst (pc' := 29) dX8_load_28 rfl ?_
  refine Z_aload_n (pc' := 30) dX8_load_29 rfl rfl ?_
  refine Z_getI' (ji := 18) (pc' := 33) dX8_load_30 rfl rfl fX8_159 rfl (Or.inl dd_54) ?_
  refine Z_imul (pc' := 34) dX8_load_33 rfl ?_
  have h1 := P.1
  have P := P.2
  have h2 := P.1
  have P := P.2
  refine Z_icmp_ge (tgt := 58) (pc' := 37) dX8_load_34 (by decide) rfl h1 h2 (fun c3 => ?_) (fun c3 => ?_)
  · have P := P.1 c3
    refine Z_aload_n (pc' := 59) dX8_load_58 rfl rfl ?_
    refine Z_getI' (ji := 18) (pc' := 62) dX8_load_59 rfl rfl fX8_159 rfl (Or.inl dd_54) ?_
    exact Z_ireturn dX8_load_62 rfl (Nat.le_refl 0) (Nat.le_refl 0) P
  · have P := P.2 c3
    refine Z_aload_n (pc' := 38) dX8_load_37 rfl rfl ?_
    refine Z_getR (q := 55) (pc' := 41) dX8_load_38 rfl fX8_7 rfl (Or.inl dd_54) (Or.inl rr_54_0) ?_
    refine Z_bipush (pc' := 43) dX8_load_41 rfl rfl ?_
    refine Z_iload_n (pc' := 44) dX8_load_43 rfl rfl ?_
    refine Z_iadd (pc' := 45) dX8_load_44 rfl ?_
    refine Z_aload_n (pc' := 46) dX8_load_45 rfl rfl ?_
    refine Z_getR (q := 64) (pc' := 49) dX8_load_46 rfl fX8_38 rfl (Or.inl dd_54) (Or.inl rr_54_17) ?_
    refine Z_iload_n (pc' := 50) dX8_load_49 rfl rfl ?_
    have h4 := P.1
    have P := P.2
    have h5 := P.1
    have P := P.2
    refine Z_iaload (pc' := 51) dX8_load_50 rfl (Or.inl dd_64) (Nat.le_of_ble_eq_true rfl) h4 h5 ?_
    have h6 := P.1
    have P := P.2
    have h7 := P.1
    have P := P.2
    refine Z_iastore (pc' := 52) dX8_load_51 rfl (Or.inl dd_55) (Nat.le_of_ble_eq_true rfl) h6 h7 ?_
    refine Z_iinc (pc' := 55) (lo' := [some (.ref 54), some (vi (x1 + 1))]) dX8_load_52 rfl (by decide) rfl rfl ?_
    refine Z_goto (tgt := 27) dX8_load_55 (by decide) ?_
    exact P
theorem bX8_undo {d : Nat} {Q : Int → zMem → Prop} {μ : zMem}  (P : (zIn (gI μ 54 1)) ∧ (((gI μ 54 1) = 0 → (Q (-4) μ)) ∧ (¬ ((gI μ 54 1) = 0) → (kX8_copies d (257 * (gI μ 54 1)) 0 μ (fun μ3 : zMem => Q (gI (sI μ3 54 1 ((gI μ3 54 1) - 1)) 54 1) (sI μ3 54 1 ((gI μ3 54 1) - 1))))))) : kX8_undo (d + 1) μ Q := by
  refine Cl_of rfl (Nat.le_of_ble_eq_true rfl) rfl ?_
  show Z SS none mX8_undo (d + 1) 0 0 (qI Q) 0 [some (.ref 54)] [] μ 0 0
  refine Z_aload_n (pc' := 1) dX8_undo_0 rfl rfl ?_
  refine Z_getI' (ji := 1) (pc' := 4) dX8_undo_1 rfl rfl fX8_41 rfl (Or.inl dd_54) ?_
  have h1 := P.1
  have P := P.2
  refine Z_if_ne (tgt := 10) (pc' := 7) dX8_undo_4 (by decide) rfl h1 (fun c2 => ?_) (fun c2 => ?_)
  · have P := P.2 c2
    refine Z_aload_n (pc' := 11) dX8_undo_10 rfl rfl ?_
    refine Z_sipush (pc' := 14) dX8_undo_11 rfl rfl ?_
    refine Z_aload_n (pc' := 15) dX8_undo_14 rfl rfl ?_
    refine Z_getI' (ji := 1) (pc' := 18) dX8_undo_15 rfl rfl fX8_41 rfl (Or.inl dd_54) ?_
    refine Z_imul (pc' := 19) dX8_undo_18 rfl ?_
    refine Z_iconst (pc' := 20) dX8_undo_19 rfl ?_
    refine Z_callV0 (M' := mX8_copies) (pc' := 23) (st := []) [vi (257 * (gI μ 54 1)), vi 0] dX8_undo_20 rfl vX8_copies lX8_45 (Or.inl dd_54) rfl (Nat.le_of_ble_eq_true rfl) (Nat.le_refl 0) (Nat.le_refl 0) ?_
    refine Cl_mono P ?_
    rintro _ μ3 ⟨rfl, P⟩
    show Z SS none mX8_undo (d + 1) 0 0 (qI Q) 23 [some (.ref 54)] [] μ3 0 0
    refine Z_aload_n (pc' := 24) dX8_undo_23 rfl rfl ?_
    refine Z_dup (pc' := 25) dX8_undo_24 rfl rfl ?_
    refine Z_getI' (ji := 1) (pc' := 28) dX8_undo_25 rfl rfl fX8_41 rfl (Or.inl dd_54) ?_
    refine Z_iconst (pc' := 29) dX8_undo_28 rfl ?_
    refine Z_isub (pc' := 30) dX8_undo_29 rfl ?_
    refine Z_putI' (ji := 1) (pc' := 33) dX8_undo_30 rfl rfl fX8_41 (Or.inl rfl) rfl (Or.inl dd_54) ?_
    refine Z_aload_n (pc' := 34) dX8_undo_33 rfl rfl ?_
    refine Z_getI' (ji := 1) (pc' := 37) dX8_undo_34 rfl rfl fX8_41 rfl (Or.inl dd_54) ?_
    exact Z_ireturn dX8_undo_37 rfl (Nat.le_refl 0) (Nat.le_refl 0) P
  · have P := P.1 c2
    refine Z_bipush (pc' := 9) dX8_undo_7 rfl rfl ?_
    exact Z_ireturn dX8_undo_9 rfl (Nat.le_refl 0) (Nat.le_refl 0) P
theorem bX8_note {d : Nat} {Q : zMem → Prop} {μ : zMem} {y1 : Int64} (P : Q (sL μ 54 19 (((31 : Int64) * (gL μ 54 19)) + y1))) : kX8_note d y1 μ Q := by
  refine Cl_of rfl (Nat.le_of_ble_eq_true rfl) rfl ?_
  show Z SS none mX8_note d 0 0 (qV Q) 0 [some (.ref 54), some (.long (y1)), none] [] μ 0 0
  refine Z_aload_n (pc' := 1) dX8_note_0 rfl rfl ?_
  refine Z_ldc2 (pc' := 4) dX8_note_1 rfl kX8_172 ?_
  refine Z_aload_n (pc' := 5) dX8_note_4 rfl rfl ?_
  refine Z_getJ' (ji := 19) (pc' := 8) dX8_note_5 rfl rfl fX8_174 rfl (Or.inl dd_54) ?_
  refine Z_lmul (pc' := 9) dX8_note_8 rfl ?_
  refine Z_lload_n (pc' := 10) dX8_note_9 rfl rfl ?_
  refine Z_ladd (pc' := 11) dX8_note_10 rfl ?_
  refine Z_putJ' (ji := 19) (pc' := 14) dX8_note_11 rfl rfl fX8_174 (Or.inl rfl) rfl (Or.inl dd_54) ?_
  exact Z_return dX8_note_14 rfl (Nat.le_refl 0) (Nat.le_refl 0) P
abbrev zX8_digest_9 (d : Nat) (Q : Int64 → zMem → Prop) (x1 : Int) (μ : zMem) : Prop := Z SS none mX8_digest (d + 1) 0 0 (qL Q) 9 [some (.ref 54), some (vi x1)] [] μ 0 0
abbrev zX8_digest_37 (d : Nat) (Q : Int64 → zMem → Prop) (x1 : Int) (μ : zMem) : Prop := Z SS none mX8_digest (d + 1) 0 0 (qL Q) 37 [some (.ref 54), some (vi x1)] [] μ 0 0
abbrev zX8_digest_73 (d : Nat) (Q : Int64 → zMem → Prop) (x1 : Int) (μ : zMem) : Prop := Z SS none mX8_digest (d + 1) 0 0 (qL Q) 73 [some (.ref 54), some (vi x1)] [] μ 0 0
abbrev zX8_digest_108 (d : Nat) (Q : Int64 → zMem → Prop) (x1 : Int) (μ : zMem) : Prop := Z SS none mX8_digest (d + 1) 0 0 (qL Q) 108 [some (.ref 54), some (vi x1)] [] μ 0 0
abbrev zX8_digest_146 (d : Nat) (Q : Int64 → zMem → Prop) (x1 : Int) (μ : zMem) : Prop := Z SS none mX8_digest (d + 1) 0 0 (qL Q) 146 [some (.ref 54), some (vi x1)] [] μ 0 0
abbrev zX8_digest_193 (d : Nat) (Q : Int64 → zMem → Prop) (x1 : Int) (μ : zMem) : Prop := Z SS none mX8_digest (d + 1) 0 0 (qL Q) 193 [some (.ref 54), some (vi x1)] [] μ 0 0
theorem bX8_digest {d : Nat} {Q : Int64 → zMem → Prop} {μ : zMem}  (P : zX8_digest_9 d Q 0 (sL μ 54 19 (23 : Int64))) : kX8_digest (d + 1) μ Q := by
  refine Cl_of rfl (Nat.le_of_ble_eq_true rfl) rfl ?_
  show Z SS none mX8_digest (d + 1) 0 0 (qL Q) 0 [some (.ref 54), none] [] μ 0 0
  refine Z_aload_n (pc' := 1) dX8_digest_0 rfl rfl ?_
  refine Z_ldc2 (pc' := 4) dX8_digest_1 rfl kX8_178 ?_
  refine Z_putJ' (ji := 19) (pc' := 7) dX8_digest_4 rfl rfl fX8_174 (Or.inl rfl) rfl (Or.inl dd_54) ?_
  refine Z_iconst (pc' := 8) dX8_digest_7 rfl ?_
  refine Z_istore_n (pc' := 9) (lo' := [some (.ref 54), some (vi 0)]) dX8_digest_8 rfl (by decide) rfl ?_
  exact P
theorem bX8_digest_9 {d : Nat} {Q : Int64 → zMem → Prop} {μ : zMem} {x1 : Int} (P : (zIn x1) ∧ ((12 ≤ x1 → (kX8_findsSpans d μ (fun μ3 : zMem => zX8_digest_37 d Q 0 μ3))) ∧ (¬ (12 ≤ x1) → (kX8_count d x1 μ (fun (r5 : Int) (μ4 : zMem) => kX8_note d ((Int32.ofInt r5).toInt64) μ4 (fun μ6 : zMem => zX8_digest_9 d Q (x1 + 1) μ6)))))) : zX8_digest_9 d Q x1 μ := by
  refine Z_iload_n (pc' := 10) dX8_digest_9 rfl rfl ?_
  refine Z_bipush (pc' := 12) dX8_digest_10 rfl rfl ?_
  have h1 := P.1
  have P := P.2
  refine Z_icmp_ge (tgt := 31) (pc' := 15) dX8_digest_12 (by decide) rfl h1 (z_lit rfl) (fun c2 => ?_) (fun c2 => ?_)
  · have P := P.1 c2
    refine Z_aload_n (pc' := 32) dX8_digest_31 rfl rfl ?_
    refine Z_callV0 (M' := mX8_findsSpans) (pc' := 35) (st := []) [] dX8_digest_32 rfl vX8_findsSpans lX8_83 (Or.inl dd_54) rfl (Nat.le_of_ble_eq_true rfl) (Nat.le_refl 0) (Nat.le_refl 0) ?_
    refine Cl_mono P ?_
    rintro _ μ3 ⟨rfl, P⟩
    show Z SS none mX8_digest (d + 1) 0 0 (qL Q) 35 [some (.ref 54), some (vi x1)] [] μ3 0 0
    refine Z_iconst (pc' := 36) dX8_digest_35 rfl ?_
    refine Z_istore_n (pc' := 37) (lo' := [some (.ref 54), some (vi 0)]) dX8_digest_36 rfl (by decide) rfl ?_
    exact P
  · have P := P.2 c2
    refine Z_aload_n (pc' := 16) dX8_digest_15 rfl rfl ?_
    refine Z_aload_n (pc' := 17) dX8_digest_16 rfl rfl ?_
    refine Z_iload_n (pc' := 18) dX8_digest_17 rfl rfl ?_
    refine Z_callV0 (M' := mX8_count) (pc' := 21) (st := [.ref 54]) [vi x1] dX8_digest_18 rfl vX8_count lX8_180 (Or.inl dd_54) rfl (Nat.le_of_ble_eq_true rfl) (Nat.le_refl 0) (Nat.le_refl 0) ?_
    refine Cl_mono P ?_
    rintro _ μ4 ⟨r5, rfl, P⟩
    show Z SS none mX8_digest (d + 1) 0 0 (qL Q) 21 [some (.ref 54), some (vi x1)] [vi r5, .ref 54] μ4 0 0
    refine Z_i2l (pc' := 22) dX8_digest_21 rfl ?_
    refine Z_callV0 (M' := mX8_note) (pc' := 25) (st := []) [.long ((Int32.ofInt r5).toInt64)] dX8_digest_22 rfl vX8_note lX8_183 (Or.inl dd_54) rfl (Nat.le_of_ble_eq_true rfl) (Nat.le_refl 0) (Nat.le_refl 0) ?_
    refine Cl_mono P ?_
    rintro _ μ6 ⟨rfl, P⟩
    show Z SS none mX8_digest (d + 1) 0 0 (qL Q) 25 [some (.ref 54), some (vi x1)] [] μ6 0 0
    refine Z_iinc (pc' := 28) (lo' := [some (.ref 54), some (vi (x1 + 1))]) dX8_digest_25 rfl (by decide) rfl rfl ?_
    refine Z_goto (tgt := 9) dX8_digest_28 (by decide) ?_
    exact P
theorem bX8_digest_37 {d : Nat} {Q : Int64 → zMem → Prop} {μ : zMem} {x1 : Int} (P : (zIn x1) ∧ ((36 ≤ x1 → (zX8_digest_73 d Q 0 μ)) ∧ (¬ (36 ≤ x1) → ((0 ≤ x1) ∧ ((x1 < 1296) ∧ (kX8_note d ((Int32.ofInt (gI μ 56 x1)).toInt64) μ (fun μ5 : zMem => kX8_note d ((Int32.ofInt (gI μ5 57 x1)).toInt64) μ5 (fun μ6 : zMem => zX8_digest_37 d Q (x1 + 1) μ6)))))))) : zX8_digest_37 d Q x1 μ := by
  refine Z_iload_n (pc' := 38) dX8_digest_37 rfl rfl ?_
  refine Z_bipush (pc' := 40) dX8_digest_38 rfl rfl ?_
  have h1 := P.1
  have P := P.2
  refine Z_icmp_ge (tgt := 71) (pc' := 43) dX8_digest_40 (by decide) rfl h1 (z_lit rfl) (fun c2 => ?_) (fun c2 => ?_)
  · have P := P.1 c2
    refine Z_iconst (pc' := 72) dX8_digest_71 rfl ?_
    refine Z_istore_n (pc' := 73) (lo' := [some (.ref 54), some (vi 0)]) dX8_digest_72 rfl (by decide) rfl ?_
    exact P
  · have P := P.2 c2
    refine Z_aload_n (pc' := 44) dX8_digest_43 rfl rfl ?_
    refine Z_aload_n (pc' := 45) dX8_digest_44 rfl rfl ?_
    refine Z_getR (q := 56) (pc' := 48) dX8_digest_45 rfl fX8_13 rfl (Or.inl dd_54) (Or.inl rr_54_2) ?_
    refine Z_iload_n (pc' := 49) dX8_digest_48 rfl rfl ?_
    have h3 := P.1
    have P := P.2
    have h4 := P.1
    have P := P.2
    refine Z_iaload (pc' := 50) dX8_digest_49 rfl (Or.inl dd_56) (Nat.le_of_ble_eq_true rfl) h3 h4 ?_
    refine Z_i2l (pc' := 51) dX8_digest_50 rfl ?_
    refine Z_callV0 (M' := mX8_note) (pc' := 54) (st := []) [.long ((Int32.ofInt (gI μ 56 x1)).toInt64)] dX8_digest_51 rfl vX8_note lX8_183 (Or.inl dd_54) rfl (Nat.le_of_ble_eq_true rfl) (Nat.le_refl 0) (Nat.le_refl 0) ?_
    refine Cl_mono P ?_
    rintro _ μ5 ⟨rfl, P⟩
    show Z SS none mX8_digest (d + 1) 0 0 (qL Q) 54 [some (.ref 54), some (vi x1)] [] μ5 0 0
    refine Z_aload_n (pc' := 55) dX8_digest_54 rfl rfl ?_
    refine Z_aload_n (pc' := 56) dX8_digest_55 rfl rfl ?_
    refine Z_getR (q := 57) (pc' := 59) dX8_digest_56 rfl fX8_16 rfl (Or.inl dd_54) (Or.inl rr_54_3) ?_
    refine Z_iload_n (pc' := 60) dX8_digest_59 rfl rfl ?_
    refine Z_iaload (pc' := 61) dX8_digest_60 rfl (Or.inl dd_57) (Nat.le_of_ble_eq_true rfl) h3 h4 ?_
    refine Z_i2l (pc' := 62) dX8_digest_61 rfl ?_
    refine Z_callV0 (M' := mX8_note) (pc' := 65) (st := []) [.long ((Int32.ofInt (gI μ5 57 x1)).toInt64)] dX8_digest_62 rfl vX8_note lX8_183 (Or.inl dd_54) rfl (Nat.le_of_ble_eq_true rfl) (Nat.le_refl 0) (Nat.le_refl 0) ?_
    refine Cl_mono P ?_
    rintro _ μ6 ⟨rfl, P⟩
    show Z SS none mX8_digest (d + 1) 0 0 (qL Q) 65 [some (.ref 54), some (vi x1)] [] μ6 0 0
    refine Z_iinc (pc' := 68) (lo' := [some (.ref 54), some (vi (x1 + 1))]) dX8_digest_65 rfl (by decide) rfl rfl ?_
    refine Z_goto (tgt := 37) dX8_digest_68 (by decide) ?_
    exact P
theorem bX8_digest_73 {d : Nat} {Q : Int64 → zMem → Prop} {μ : zMem} {x1 : Int} (P : (zIn x1) ∧ ((zIn (3 * (gI μ 55 31))) ∧ (((3 * (gI μ 55 31)) ≤ x1 → (zX8_digest_108 d Q 0 μ)) ∧ (¬ ((3 * (gI μ 55 31)) ≤ x1) → ((0 ≤ (32 + x1)) ∧ (((32 + x1) < 1285) ∧ (kX8_note d ((Int32.ofInt (gI μ 55 (32 + x1))).toInt64) μ (fun μ6 : zMem => zX8_digest_73 d Q (x1 + 1) μ6)))))))) : zX8_digest_73 d Q x1 μ := by
  refine Z_iload_n (pc' := 74) dX8_digest_73 rfl rfl ?_
  refine Z_iconst (pc' := 75) dX8_digest_74 rfl ?_
  refine Z_aload_n (pc' := 76) dX8_digest_75 rfl rfl ?_
  refine Z_getR (q := 55) (pc' := 79) dX8_digest_76 rfl fX8_7 rfl (Or.inl dd_54) (Or.inl rr_54_0) ?_
  refine Z_bipush (pc' := 81) dX8_digest_79 rfl rfl ?_
  refine Z_iaload (pc' := 82) dX8_digest_81 rfl (Or.inl dd_55) (Nat.le_of_ble_eq_true rfl) (by decide) (by decide) ?_
  refine Z_imul (pc' := 83) dX8_digest_82 rfl ?_
  have h1 := P.1
  have P := P.2
  have h2 := P.1
  have P := P.2
  refine Z_icmp_ge (tgt := 106) (pc' := 86) dX8_digest_83 (by decide) rfl h1 h2 (fun c3 => ?_) (fun c3 => ?_)
  · have P := P.1 c3
    refine Z_iconst (pc' := 107) dX8_digest_106 rfl ?_
    refine Z_istore_n (pc' := 108) (lo' := [some (.ref 54), some (vi 0)]) dX8_digest_107 rfl (by decide) rfl ?_
    exact P
  · have P := P.2 c3
    refine Z_aload_n (pc' := 87) dX8_digest_86 rfl rfl ?_
    refine Z_aload_n (pc' := 88) dX8_digest_87 rfl rfl ?_
    refine Z_getR (q := 55) (pc' := 91) dX8_digest_88 rfl fX8_7 rfl (Or.inl dd_54) (Or.inl rr_54_0) ?_
    refine Z_bipush (pc' := 93) dX8_digest_91 rfl rfl ?_
    refine Z_iload_n (pc' := 94) dX8_digest_93 rfl rfl ?_
    refine Z_iadd (pc' := 95) dX8_digest_94 rfl ?_
    have h4 := P.1
    have P := P.2
    have h5 := P.1
    have P := P.2
    refine Z_iaload (pc' := 96) dX8_digest_95 rfl (Or.inl dd_55) (Nat.le_of_ble_eq_true rfl) h4 h5 ?_
    refine Z_i2l (pc' := 97) dX8_digest_96 rfl ?_
    refine Z_callV0 (M' := mX8_note) (pc' := 100) (st := []) [.long ((Int32.ofInt (gI μ 55 (32 + x1))).toInt64)] dX8_digest_97 rfl vX8_note lX8_183 (Or.inl dd_54) rfl (Nat.le_of_ble_eq_true rfl) (Nat.le_refl 0) (Nat.le_refl 0) ?_
    refine Cl_mono P ?_
    rintro _ μ6 ⟨rfl, P⟩
    show Z SS none mX8_digest (d + 1) 0 0 (qL Q) 100 [some (.ref 54), some (vi x1)] [] μ6 0 0
    refine Z_iinc (pc' := 103) (lo' := [some (.ref 54), some (vi (x1 + 1))]) dX8_digest_100 rfl (by decide) rfl rfl ?_
    refine Z_goto (tgt := 73) dX8_digest_103 (by decide) ?_
    exact P
theorem bX8_digest_108 {d : Nat} {Q : Int64 → zMem → Prop} {μ : zMem} {x1 : Int} (P : (zIn x1) ∧ ((5 ≤ x1 → (zX8_digest_146 d Q 0 μ)) ∧ (¬ (5 ≤ x1) → ((zIn (gI μ 55 82)) ∧ (((gI μ 55 82) = 1 → ((0 ≤ (83 + x1)) ∧ (((83 + x1) < 1285) ∧ (kX8_note d ((Int32.ofInt (gI μ 55 (83 + x1))).toInt64) μ (fun μ7 : zMem => zX8_digest_108 d Q (x1 + 1) μ7))))) ∧ (¬ ((gI μ 55 82) = 1) → (zX8_digest_146 d Q 0 μ))))))) : zX8_digest_108 d Q x1 μ := by
  refine Z_iload_n (pc' := 109) dX8_digest_108 rfl rfl ?_
  refine Z_iconst (pc' := 110) dX8_digest_109 rfl ?_
  have h1 := P.1
  have P := P.2
  refine Z_icmp_ge (tgt := 144) (pc' := 113) dX8_digest_110 (by decide) rfl h1 (z_lit rfl) (fun c2 => ?_) (fun c2 => ?_)
  · have P := P.1 c2
    refine Z_iconst (pc' := 145) dX8_digest_144 rfl ?_
    refine Z_istore_n (pc' := 146) (lo' := [some (.ref 54), some (vi 0)]) dX8_digest_145 rfl (by decide) rfl ?_
    exact P
  · have P := P.2 c2
    refine Z_aload_n (pc' := 114) dX8_digest_113 rfl rfl ?_
    refine Z_getR (q := 55) (pc' := 117) dX8_digest_114 rfl fX8_7 rfl (Or.inl dd_54) (Or.inl rr_54_0) ?_
    refine Z_bipush (pc' := 119) dX8_digest_117 rfl rfl ?_
    refine Z_iaload (pc' := 120) dX8_digest_119 rfl (Or.inl dd_55) (Nat.le_of_ble_eq_true rfl) (by decide) (by decide) ?_
    refine Z_iconst (pc' := 121) dX8_digest_120 rfl ?_
    have h3 := P.1
    have P := P.2
    refine Z_icmp_ne (tgt := 144) (pc' := 124) dX8_digest_121 (by decide) rfl h3 (z_lit rfl) (fun c4 => ?_) (fun c4 => ?_)
    · have P := P.2 c4
      refine Z_iconst (pc' := 145) dX8_digest_144 rfl ?_
      refine Z_istore_n (pc' := 146) (lo' := [some (.ref 54), some (vi 0)]) dX8_digest_145 rfl (by decide) rfl ?_
      exact P
    · have P := P.1 c4
      refine Z_aload_n (pc' := 125) dX8_digest_124 rfl rfl ?_
      refine Z_aload_n (pc' := 126) dX8_digest_125 rfl rfl ?_
      refine Z_getR (q := 55) (pc' := 129) dX8_digest_126 rfl fX8_7 rfl (Or.inl dd_54) (Or.inl rr_54_0) ?_
      refine Z_bipush (pc' := 131) dX8_digest_129 rfl rfl ?_
      refine Z_iload_n (pc' := 132) dX8_digest_131 rfl rfl ?_
      refine Z_iadd (pc' := 133) dX8_digest_132 rfl ?_
      have h5 := P.1
      have P := P.2
      have h6 := P.1
      have P := P.2
      refine Z_iaload (pc' := 134) dX8_digest_133 rfl (Or.inl dd_55) (Nat.le_of_ble_eq_true rfl) h5 h6 ?_
      refine Z_i2l (pc' := 135) dX8_digest_134 rfl ?_
      refine Z_callV0 (M' := mX8_note) (pc' := 138) (st := []) [.long ((Int32.ofInt (gI μ 55 (83 + x1))).toInt64)] dX8_digest_135 rfl vX8_note lX8_183 (Or.inl dd_54) rfl (Nat.le_of_ble_eq_true rfl) (Nat.le_refl 0) (Nat.le_refl 0) ?_
      refine Cl_mono P ?_
      rintro _ μ7 ⟨rfl, P⟩
      show Z SS none mX8_digest (d + 1) 0 0 (qL Q) 138 [some (.ref 54), some (vi x1)] [] μ7 0 0
      refine Z_iinc (pc' := 141) (lo' := [some (.ref 54), some (vi (x1 + 1))]) dX8_digest_138 rfl (by decide) rfl rfl ?_
      refine Z_goto (tgt := 108) dX8_digest_141 (by decide) ?_
      exact P
theorem bX8_digest_146 {d : Nat} {Q : Int64 → zMem → Prop} {μ : zMem} {x1 : Int} (P : (zIn (gI μ 55 82)) ∧ (((gI μ 55 82) = 1 → ((zIn x1) ∧ ((zIn (7 * (gI μ 55 84))) ∧ (((7 * (gI μ 55 84)) ≤ x1 → (zX8_digest_193 d Q 0 μ)) ∧ (¬ ((7 * (gI μ 55 84)) ≤ x1) → ((0 ≤ (88 + x1)) ∧ (((88 + x1) < 1285) ∧ (kX8_note d ((Int32.ofInt (gI μ 55 (88 + x1))).toInt64) μ (fun μ8 : zMem => zX8_digest_146 d Q (x1 + 1) μ8))))))))) ∧ (¬ ((gI μ 55 82) = 1) → (zX8_digest_193 d Q 0 μ)))) : zX8_digest_146 d Q x1 μ := by
  refine Z_aload_n (pc' := 147) dX8_digest_146 rfl rfl ?_
  refine Z_getR (q := 55) (pc' := 150) dX8_digest_147 rfl fX8_7 rfl (Or.inl dd_54) (Or.inl rr_54_0) ?_
  refine Z_bipush (pc' := 152) dX8_digest_150 rfl rfl ?_
  refine Z_iaload (pc' := 153) dX8_digest_152 rfl (Or.inl dd_55) (Nat.le_of_ble_eq_true rfl) (by decide) (by decide) ?_
  refine Z_iconst (pc' := 154) dX8_digest_153 rfl ?_
  have h1 := P.1
  have P := P.2
  refine Z_icmp_ne (tgt := 191) (pc' := 157) dX8_digest_154 (by decide) rfl h1 (z_lit rfl) (fun c2 => ?_) (fun c2 => ?_)
  · have P := P.2 c2
    refine Z_iconst (pc' := 192) dX8_digest_191 rfl ?_
    refine Z_istore_n (pc' := 193) (lo' := [some (.ref 54), some (vi 0)]) dX8_digest_192 rfl (by decide) rfl ?_
    exact P
  · have P := P.1 c2
    refine Z_iload_n (pc' := 158) dX8_digest_157 rfl rfl ?_
    refine Z_bipush (pc' := 160) dX8_digest_158 rfl rfl ?_
    refine Z_aload_n (pc' := 161) dX8_digest_160 rfl rfl ?_
    refine Z_getR (q := 55) (pc' := 164) dX8_digest_161 rfl fX8_7 rfl (Or.inl dd_54) (Or.inl rr_54_0) ?_
    refine Z_bipush (pc' := 166) dX8_digest_164 rfl rfl ?_
    refine Z_iaload (pc' := 167) dX8_digest_166 rfl (Or.inl dd_55) (Nat.le_of_ble_eq_true rfl) (by decide) (by decide) ?_
    refine Z_imul (pc' := 168) dX8_digest_167 rfl ?_
    have h3 := P.1
    have P := P.2
    have h4 := P.1
    have P := P.2
    refine Z_icmp_ge (tgt := 191) (pc' := 171) dX8_digest_168 (by decide) rfl h3 h4 (fun c5 => ?_) (fun c5 => ?_)
    · have P := P.1 c5
      refine Z_iconst (pc' := 192) dX8_digest_191 rfl ?_
      refine Z_istore_n (pc' := 193) (lo' := [some (.ref 54), some (vi 0)]) dX8_digest_192 rfl (by decide) rfl ?_
      exact P
    · have P := P.2 c5
      refine Z_aload_n (pc' := 172) dX8_digest_171 rfl rfl ?_
      refine Z_aload_n (pc' := 173) dX8_digest_172 rfl rfl ?_
      refine Z_getR (q := 55) (pc' := 176) dX8_digest_173 rfl fX8_7 rfl (Or.inl dd_54) (Or.inl rr_54_0) ?_
      refine Z_bipush (pc' := 178) dX8_digest_176 rfl rfl ?_
      refine Z_iload_n (pc' := 179) dX8_digest_178 rfl rfl ?_
      refine Z_iadd (pc' := 180) dX8_digest_179 rfl ?_
      have h6 := P.1
      have P := P.2
      have h7 := P.1
      have P := P.2
      refine Z_iaload (pc' := 181) dX8_digest_180 rfl (Or.inl dd_55) (Nat.le_of_ble_eq_true rfl) h6 h7 ?_
      refine Z_i2l (pc' := 182) dX8_digest_181 rfl ?_
      refine Z_callV0 (M' := mX8_note) (pc' := 185) (st := []) [.long ((Int32.ofInt (gI μ 55 (88 + x1))).toInt64)] dX8_digest_182 rfl vX8_note lX8_183 (Or.inl dd_54) rfl (Nat.le_of_ble_eq_true rfl) (Nat.le_refl 0) (Nat.le_refl 0) ?_
      refine Cl_mono P ?_
      rintro _ μ8 ⟨rfl, P⟩
      show Z SS none mX8_digest (d + 1) 0 0 (qL Q) 185 [some (.ref 54), some (vi x1)] [] μ8 0 0
      refine Z_iinc (pc' := 188) (lo' := [some (.ref 54), some (vi (x1 + 1))]) dX8_digest_185 rfl (by decide) rfl rfl ?_
      refine Z_goto (tgt := 146) dX8_digest_188 (by decide) ?_
      exact P
theorem bX8_digest_193 {d : Nat} {Q : Int64 → zMem → Prop} {μ : zMem} {x1 : Int} (P : (zIn (gI μ 55 82)) ∧ (((gI μ 55 82) = 1 → ((zIn x1) ∧ ((zIn (5 * (gI μ 55 256))) ∧ (((5 * (gI μ 55 256)) ≤ x1 → (Q (gL μ 54 19) μ)) ∧ (¬ ((5 * (gI μ 55 256)) ≤ x1) → ((0 ≤ (186 + x1)) ∧ (((186 + x1) < 1285) ∧ (kX8_note d ((Int32.ofInt (gI μ 55 (186 + x1))).toInt64) μ (fun μ8 : zMem => zX8_digest_193 d Q (x1 + 1) μ8))))))))) ∧ (¬ ((gI μ 55 82) = 1) → (Q (gL μ 54 19) μ)))) : zX8_digest_193 d Q x1 μ := by
  refine Z_aload_n (pc' := 194) dX8_digest_193 rfl rfl ?_
  refine Z_getR (q := 55) (pc' := 197) dX8_digest_194 rfl fX8_7 rfl (Or.inl dd_54) (Or.inl rr_54_0) ?_
  refine Z_bipush (pc' := 199) dX8_digest_197 rfl rfl ?_
  refine Z_iaload (pc' := 200) dX8_digest_199 rfl (Or.inl dd_55) (Nat.le_of_ble_eq_true rfl) (by decide) (by decide) ?_
  refine Z_iconst (pc' := 201) dX8_digest_200 rfl ?_
  have h1 := P.1
  have P := P.2
  refine Z_icmp_ne (tgt := 239) (pc' := 204) dX8_digest_201 (by decide) rfl h1 (z_lit rfl) (fun c2 => ?_) (fun c2 => ?_)
  · have P := P.2 c2
    refine Z_aload_n (pc' := 240) dX8_digest_239 rfl rfl ?_
    refine Z_getJ' (ji := 19) (pc' := 243) dX8_digest_240 rfl rfl fX8_174 rfl (Or.inl dd_54) ?_
    exact Z_lreturn dX8_digest_243 rfl (Nat.le_refl 0) (Nat.le_refl 0) P
  · have P := P.1 c2
    refine Z_iload_n (pc' := 205) dX8_digest_204 rfl rfl ?_
    refine Z_iconst (pc' := 206) dX8_digest_205 rfl ?_
    refine Z_aload_n (pc' := 207) dX8_digest_206 rfl rfl ?_
    refine Z_getR (q := 55) (pc' := 210) dX8_digest_207 rfl fX8_7 rfl (Or.inl dd_54) (Or.inl rr_54_0) ?_
    refine Z_sipush (pc' := 213) dX8_digest_210 rfl rfl ?_
    refine Z_iaload (pc' := 214) dX8_digest_213 rfl (Or.inl dd_55) (Nat.le_of_ble_eq_true rfl) (by decide) (by decide) ?_
    refine Z_imul (pc' := 215) dX8_digest_214 rfl ?_
    have h3 := P.1
    have P := P.2
    have h4 := P.1
    have P := P.2
    refine Z_icmp_ge (tgt := 239) (pc' := 218) dX8_digest_215 (by decide) rfl h3 h4 (fun c5 => ?_) (fun c5 => ?_)
    · have P := P.1 c5
      refine Z_aload_n (pc' := 240) dX8_digest_239 rfl rfl ?_
      refine Z_getJ' (ji := 19) (pc' := 243) dX8_digest_240 rfl rfl fX8_174 rfl (Or.inl dd_54) ?_
      exact Z_lreturn dX8_digest_243 rfl (Nat.le_refl 0) (Nat.le_refl 0) P
    · have P := P.2 c5
      refine Z_aload_n (pc' := 219) dX8_digest_218 rfl rfl ?_
      refine Z_aload_n (pc' := 220) dX8_digest_219 rfl rfl ?_
      refine Z_getR (q := 55) (pc' := 223) dX8_digest_220 rfl fX8_7 rfl (Or.inl dd_54) (Or.inl rr_54_0) ?_
      refine Z_sipush (pc' := 226) dX8_digest_223 rfl rfl ?_
      refine Z_iload_n (pc' := 227) dX8_digest_226 rfl rfl ?_
      refine Z_iadd (pc' := 228) dX8_digest_227 rfl ?_
      have h6 := P.1
      have P := P.2
      have h7 := P.1
      have P := P.2
      refine Z_iaload (pc' := 229) dX8_digest_228 rfl (Or.inl dd_55) (Nat.le_of_ble_eq_true rfl) h6 h7 ?_
      refine Z_i2l (pc' := 230) dX8_digest_229 rfl ?_
      refine Z_callV0 (M' := mX8_note) (pc' := 233) (st := []) [.long ((Int32.ofInt (gI μ 55 (186 + x1))).toInt64)] dX8_digest_230 rfl vX8_note lX8_183 (Or.inl dd_54) rfl (Nat.le_of_ble_eq_true rfl) (Nat.le_refl 0) (Nat.le_refl 0) ?_
      refine Cl_mono P ?_
      rintro _ μ8 ⟨rfl, P⟩
      show Z SS none mX8_digest (d + 1) 0 0 (qL Q) 233 [some (.ref 54), some (vi x1)] [] μ8 0 0
      refine Z_iinc (pc' := 236) (lo' := [some (.ref 54), some (vi (x1 + 1))]) dX8_digest_233 rfl (by decide) rfl rfl ?_
      refine Z_goto (tgt := 193) dX8_digest_236 (by decide) ?_
      exact P
