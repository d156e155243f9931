abbrev zX6_read_12 (d : Nat) (Q : Int → zMem → Prop) (x2 : Int) (x3 : Int) (μ : zMem) : Prop := Z SS none mX6_read (d + 1) 0 0 (qI Q) 12 [some (.ref 9), some (.ref 8), some (vi x2), some (vi x3)] [] μ 0 0
theorem bX6_read {d : Nat} {Q : Int → zMem → Prop} {μ : zMem} {x2 : Int} (P : zX6_read_12 d Q x2 0 (sI (sI μ 9 0 0) 9 2 0)) : kX6_read (d + 1) x2 μ Q := by
  refine Cl_of rfl (Nat.le_of_ble_eq_true rfl) rfl ?_
  show Z SS none mX6_read (d + 1) 0 0 (qI Q) 0 [some (.ref 9), some (.ref 8), some (vi x2), none] [] μ 0 0
  refine Z_aload_n (pc' := 1) dX6_read_0 rfl rfl ?_
  refine Z_iconst (pc' := 2) dX6_read_1 rfl ?_
  refine Z_putI' (ji := 0) (pc' := 5) dX6_read_2 rfl rfl fX6_9 (Or.inl rfl) rfl (Or.inl dd_9) ?_
  refine Z_aload_n (pc' := 6) dX6_read_5 rfl rfl ?_
  refine Z_iconst (pc' := 7) dX6_read_6 rfl ?_
  refine Z_putI' (ji := 2) (pc' := 10) dX6_read_7 rfl rfl fX6_19 (Or.inl rfl) rfl (Or.inl dd_9) ?_
  refine Z_iconst (pc' := 11) dX6_read_10 rfl ?_
  refine Z_istore_n (pc' := 12) (lo' := [some (.ref 9), some (.ref 8), some (vi x2), some (vi 0)]) dX6_read_11 rfl (by decide) rfl ?_
  exact P
theorem bX6_read_12 {d : Nat} {Q : Int → zMem → Prop} {μ : zMem} {x2 : Int} {x3 : Int} (P : (zIn x3) ∧ ((zIn x2) ∧ ((x2 ≤ x3 → (((zIn (gI μ 9 2))) ∧ (Q (if (gI μ 9 2) = 4 then x2 else (-1)) μ))) ∧ (¬ (x2 ≤ x3) → ((zIn ((80 : Nat) : Int)) ∧ ((((80 : Nat) : Int) ≤ x3 → (((zIn (gI μ 9 2))) ∧ (Q (if (gI μ 9 2) = 4 then x2 else (-1)) μ))) ∧ (¬ (((80 : Nat) : Int) ≤ x3) → ((0 ≤ x3) ∧ ((x3 < 80) ∧ (kX6_accepts d (gI μ 8 x3) μ (fun (r15 : Int) (μ14 : zMem) => (zIn r15) ∧ ((r15 = 0 → (Q x3 μ14)) ∧ (¬ (r15 = 0) → (zX6_read_12 d Q x2 (x3 + 1) μ14)))))))))))))) : zX6_read_12 d Q x2 x3 μ := by
  refine Z_iload_n (pc' := 13) dX6_read_12 rfl rfl ?_
  refine Z_iload_n (pc' := 14) dX6_read_13 rfl rfl ?_
  have h1 := P.1
  have P := P.2
  have h2 := P.1
  have P := P.2
  refine Z_icmp_ge (tgt := 41) (pc' := 17) dX6_read_14 (by decide) rfl h1 h2 (fun c3 => ?_) (fun c3 => ?_)
  · have P := P.1 c3
    refine Z_aload_n (pc' := 42) dX6_read_41 rfl rfl ?_
    refine Z_getI' (ji := 2) (pc' := 45) dX6_read_42 rfl rfl fX6_19 rfl (Or.inl dd_9) ?_
    refine Z_iconst (pc' := 46) dX6_read_45 rfl ?_
    have K : ∀ t6 : Int, t6 = (if (gI μ 9 2) = 4 then x2 else (-1)) → Z SS none mX6_read (d + 1) 0 0 (qI Q) 54 [some (.ref 9), some (.ref 8), some (vi x2), some (vi x3)] [vi t6] μ 0 0 := by
      rintro _ rfl
      have P := P.2
      exact Z_ireturn dX6_read_54 rfl (Nat.le_refl 0) (Nat.le_refl 0) P
    have G := P.1
    have h4 := G
    refine Z_icmp_ne (tgt := 53) (pc' := 49) dX6_read_46 (by decide) rfl h4 (z_lit rfl) (fun c5 => ?_) (fun c5 => ?_)
    · refine Z_iconst (pc' := 54) dX6_read_53 rfl ?_
      exact K _ (by rw [if_neg c5])
    · refine Z_iload_n (pc' := 50) dX6_read_49 rfl rfl ?_
      refine Z_goto (tgt := 54) dX6_read_50 (by decide) ?_
      exact K _ (by rw [if_pos c5])
  · have P := P.2 c3
    refine Z_iload_n (pc' := 18) dX6_read_17 rfl rfl ?_
    refine Z_aload_n (pc' := 19) dX6_read_18 rfl rfl ?_
    refine Z_alen (pc' := 20) dX6_read_19 rfl (Or.inl dd_8) (Or.inl rfl) ?_
    have h7 := P.1
    have P := P.2
    refine Z_icmp_ge (tgt := 41) (pc' := 23) dX6_read_20 (by decide) rfl h1 h7 (fun c8 => ?_) (fun c8 => ?_)
    · have P := P.1 c8
      refine Z_aload_n (pc' := 42) dX6_read_41 rfl rfl ?_
      refine Z_getI' (ji := 2) (pc' := 45) dX6_read_42 rfl rfl fX6_19 rfl (Or.inl dd_9) ?_
      refine Z_iconst (pc' := 46) dX6_read_45 rfl ?_
      have K : ∀ t11 : Int, t11 = (if (gI μ 9 2) = 4 then x2 else (-1)) → Z SS none mX6_read (d + 1) 0 0 (qI Q) 54 [some (.ref 9), some (.ref 8), some (vi x2), some (vi x3)] [vi t11] μ 0 0 := by
        rintro _ rfl
        have P := P.2
        exact Z_ireturn dX6_read_54 rfl (Nat.le_refl 0) (Nat.le_refl 0) P
      have G := P.1
      have h9 := G
      refine Z_icmp_ne (tgt := 53) (pc' := 49) dX6_read_46 (by decide) rfl h9 (z_lit rfl) (fun c10 => ?_) (fun c10 => ?_)
      · refine Z_iconst (pc' := 54) dX6_read_53 rfl ?_
        exact K _ (by rw [if_neg c10])
      · refine Z_iload_n (pc' := 50) dX6_read_49 rfl rfl ?_
        refine Z_goto (tgt := 54) dX6_read_50 (by decide) ?_
        exact K _ (by rw [if_pos c10])
    · have P := P.2 c8
      refine Z_aload_n (pc' := 24) dX6_read_23 rfl rfl ?_
      refine Z_aload_n (pc' := 25) dX6_read_24 rfl rfl ?_
      refine Z_iload_n (pc' := 26) dX6_read_25 rfl rfl ?_
      have h12 := P.1
      have P := P.2
      have h13 := P.1
      have P := P.2
      refine Z_iaload (pc' := 27) dX6_read_26 rfl (Or.inl dd_8) (Nat.le_of_ble_eq_true rfl) h12 h13 ?_
      refine Z_callV0 (M' := mX6_accepts) (pc' := 30) (st := []) [vi (gI μ 8 x3)] dX6_read_27 rfl vX6_accepts lX6_22 (Or.inl dd_9) rfl (Nat.le_of_ble_eq_true rfl) (Nat.le_refl 0) (Nat.le_refl 0) ?_
      refine Cl_mono P ?_
      rintro _ μ14 ⟨r15, rfl, P⟩
      show Z SS none mX6_read (d + 1) 0 0 (qI Q) 30 [some (.ref 9), some (.ref 8), some (vi x2), some (vi x3)] [vi r15] μ14 0 0
      have h16 := P.1
      have P := P.2
      refine Z_if_ne (tgt := 35) (pc' := 33) dX6_read_30 (by decide) rfl h16 (fun c17 => ?_) (fun c17 => ?_)
      · have P := P.2 c17
        refine Z_iinc (pc' := 38) (lo' := [some (.ref 9), some (.ref 8), some (vi x2), some (vi (x3 + 1))]) dX6_read_35 rfl (by decide) rfl rfl ?_
        refine Z_goto (tgt := 12) dX6_read_38 (by decide) ?_
        exact P
      · have P := P.1 c17
        refine Z_iload_n (pc' := 34) dX6_read_33 rfl rfl ?_
        exact Z_ireturn dX6_read_34 rfl (Nat.le_refl 0) (Nat.le_refl 0) P
abbrev zX7_init_65 (S : zS) (d : Nat) (Q : zMem → Prop) (p0 : Nat) (x1 : Int) (μ : zMem) (k n : Nat) : Prop := Z S none mX7_init (d + 1) 53 4449 (qV Q) 65 [some (.ref p0), some (vi x1)] [] μ k n
theorem bX7_init {S : zS} {d : Nat} {Q : zMem → Prop} {μ : zMem} {p0 : Nat} (P : (0 + 1 ≤ 53) ∧ ((0 + 5 ≤ 4449) ∧ (∀ q1 : Nat, q1 = (gD μ).length → (((0 + 1) + 5 ≤ 53) ∧ (((0 + 5) + 120 ≤ 4449) ∧ (kX5_init S d q1 (aD μ 5 0) (fun μ7 : zMem => ((gD μ7)[p0]? = some (7, 0)) ∧ ((S.1 p0 0 = none ∨ S.1 p0 0 = some q1) ∧ ((((0 + 1) + 5) + 1 ≤ 53) ∧ ((((0 + 5) + 120) + 4 ≤ 4449) ∧ (∀ q10 : Nat, q10 = (gD (sR μ7 p0 0 (some q1))).length → (((gD (aD (sR μ7 p0 0 (some q1)) 11 4))[p0]? = some (7, 0)) ∧ ((S.1 p0 1 = none ∨ S.1 p0 1 = some q10) ∧ (((gD (sR (aD (sR μ7 p0 0 (some q1)) 11 4) p0 1 (some q10)))[p0]? = some (7, 0)) ∧ (((((0 + 1) + 5) + 1) + 1 ≤ 53) ∧ (((((0 + 5) + 120) + 4) + 80 ≤ 4449) ∧ (∀ q17 : Nat, q17 = (gD (sI (sR (aD (sR μ7 p0 0 (some q1)) 11 4) p0 1 (some q10)) p0 2 0)).length → (((gD (aD (sI (sR (aD (sR μ7 p0 0 (some q1)) 11 4) p0 1 (some q10)) p0 2 0) 9 80))[p0]? = some (7, 0)) ∧ ((S.1 p0 3 = none ∨ S.1 p0 3 = some q17) ∧ (((gD (sR (aD (sI (sR (aD (sR μ7 p0 0 (some q1)) 11 4) p0 1 (some q10)) p0 2 0) 9 80) p0 3 (some q17)))[p0]? = some (7, 0)) ∧ ((((((0 + 1) + 5) + 1) + 1) + 1 ≤ 53) ∧ ((((((0 + 5) + 120) + 4) + 80) + 3 ≤ 4449) ∧ (∀ q24 : Nat, q24 = (gD (sI (sR (aD (sI (sR (aD (sR μ7 p0 0 (some q1)) 11 4) p0 1 (some q10)) p0 2 0) 9 80) p0 3 (some q17)) p0 4 0)).length → (((((((0 + 1) + 5) + 1) + 1) + 1) + 1 ≤ 53) ∧ (((((((0 + 5) + 120) + 4) + 80) + 3) + 42 ≤ 4449) ∧ (kX6_init S d q24 (aD (sI (sR (aD (sI (sR (aD (sR μ7 p0 0 (some q1)) 11 4) p0 1 (some q10)) p0 2 0) 9 80) p0 3 (some q17)) p0 4 0) 6 0) (fun μ30 : zMem => ((gD μ30)[p0]? = some (7, 0)) ∧ ((S.1 p0 5 = none ∨ S.1 p0 5 = some q24) ∧ ((((((((0 + 1) + 5) + 1) + 1) + 1) + 1) + 1 ≤ 53) ∧ ((((((((0 + 5) + 120) + 4) + 80) + 3) + 42) + 18 ≤ 4449) ∧ (∀ q33 : Nat, q33 = (gD (sR μ30 p0 5 (some q24))).length → (((((((((0 + 1) + 5) + 1) + 1) + 1) + 1) + 1) + 18 ≤ 53) ∧ (((((((((0 + 5) + 120) + 4) + 80) + 3) + 42) + 18) + 3677 ≤ 4449) ∧ (kX4_init S d q33 (aD (sR μ30 p0 5 (some q24)) 4 0) (fun μ39 : zMem => ((gD μ39)[p0]? = some (7, 0)) ∧ ((S.1 p0 6 = none ∨ S.1 p0 6 = some q33) ∧ (zX7_init_65 S d Q p0 0 (sR μ39 p0 6 (some q33)) ((((((((0 + 1) + 5) + 1) + 1) + 1) + 1) + 1) + 18) ((((((((0 + 5) + 120) + 4) + 80) + 3) + 42) + 18) + 3677)))))))))))))))))))))))))))))))))))))) : kX7_init S (d + 1) p0 μ Q := by
  refine Cl_of rfl (Nat.le_of_ble_eq_true rfl) rfl ?_
  show Z S none mX7_init (d + 1) 53 4449 (qV Q) 0 [some (.ref p0), none] [] μ 0 0
  refine Z_aload_n (pc' := 1) dX7_init_0 rfl rfl ?_
  refine Z_objInit (pc' := 4) dX7_init_1 rfl lX7_1 l_oi l_oc (Nat.le_of_ble_eq_true rfl) ?_
  refine Z_aload_n (pc' := 5) dX7_init_4 rfl rfl ?_
  obtain ⟨q1, h2⟩ : ∃ q : Nat, q = (gD μ).length := ⟨_, rfl⟩
  have h3 := P.1
  have P := P.2
  have h4 := P.1
  have P := P.2
  refine Z_new (c0 := 5) (pc' := 8) dX7_init_5 rfl (by decide) h3 h4 cX7_7 n_5 u_5 ?_
  rw [← h2]
  have P := P q1 h2
  refine Z_dup (pc' := 9) dX7_init_8 rfl rfl ?_
  have h5 := P.1
  have P := P.2
  have h6 := P.1
  have P := P.2
  refine Z_callI (M' := mX5_init) (pc' := 12) (st := [.ref q1, .ref p0]) [] dX7_init_9 rfl iX5_init lX7_9 rfl (Nat.le_of_ble_eq_true rfl) h5 h6 ?_
  refine Cl_mono P ?_
  rintro _ μ7 ⟨rfl, P⟩
  show Z S none mX7_init (d + 1) 53 4449 (qV Q) 12 [some (.ref p0), none] [.ref q1, .ref p0] μ7 ((0 + 1) + 5) ((0 + 5) + 120)
  have h8 := P.1
  have P := P.2
  have h9 := P.1
  have P := P.2
  refine Z_putR' (ji := 0) (pc' := 15) dX7_init_12 rfl rfl fX7_10 (Or.inr ⟨rfl, rfl⟩) rfl (Or.inr h8) h9 ?_
  refine Z_aload_n (pc' := 16) dX7_init_15 rfl rfl ?_
  refine Z_iconst (pc' := 17) dX7_init_16 rfl ?_
  obtain ⟨q10, h11⟩ : ∃ q : Nat, q = (gD (sR μ7 p0 0 (some q1))).length := ⟨_, rfl⟩
  have h12 := P.1
  have P := P.2
  have h13 := P.1
  have P := P.2
  refine Z_newQ (pc' := 20) dX7_init_17 rfl (by decide) (by decide) h12 h13 cX7_7 ?_
  show Z S none mX7_init (d + 1) 53 4449 (qV Q) 20 _ _ (aD (sR μ7 p0 0 (some q1)) 11 4) (((0 + 1) + 5) + 1) (((0 + 5) + 120) + 4)
  rw [← h11]
  have P := P q10 h11
  have h14 := P.1
  have P := P.2
  have h15 := P.1
  have P := P.2
  refine Z_putR' (ji := 1) (pc' := 23) dX7_init_20 rfl rfl fX7_16 (Or.inr ⟨rfl, rfl⟩) rfl (Or.inr h14) h15 ?_
  refine Z_aload_n (pc' := 24) dX7_init_23 rfl rfl ?_
  refine Z_iconst (pc' := 25) dX7_init_24 rfl ?_
  have h16 := P.1
  have P := P.2
  refine Z_putI' (ji := 2) (pc' := 28) dX7_init_25 rfl rfl fX7_20 (Or.inl rfl) rfl (Or.inr h16) ?_
  refine Z_aload_n (pc' := 29) dX7_init_28 rfl rfl ?_
  refine Z_bipush (pc' := 31) dX7_init_29 rfl rfl ?_
  obtain ⟨q17, h18⟩ : ∃ q : Nat, q = (gD (sI (sR (aD (sR μ7 p0 0 (some q1)) 11 4) p0 1 (some q10)) p0 2 0)).length := ⟨_, rfl⟩
  have h19 := P.1
  have P := P.2
  have h20 := P.1
  have P := P.2
  refine Z_newI (pc' := 33) dX7_init_31 rfl (by decide) (by decide) h19 h20 l_ai ?_
  show Z S none mX7_init (d + 1) 53 4449 (qV Q) 33 _ _ (aD (sI (sR (aD (sR μ7 p0 0 (some q1)) 11 4) p0 1 (some q10)) p0 2 0) 9 80) ((((0 + 1) + 5) + 1) + 1) ((((0 + 5) + 120) + 4) + 80)
  rw [← h18]
  have P := P q17 h18
  have h21 := P.1
  have P := P.2
  have h22 := P.1
  have P := P.2
  refine Z_putR' (ji := 3) (pc' := 36) dX7_init_33 rfl rfl fX7_24 (Or.inr ⟨rfl, rfl⟩) rfl (Or.inr h21) h22 ?_
  refine Z_aload_n (pc' := 37) dX7_init_36 rfl rfl ?_
  refine Z_iconst (pc' := 38) dX7_init_37 rfl ?_
  have h23 := P.1
  have P := P.2
  refine Z_putI' (ji := 4) (pc' := 41) dX7_init_38 rfl rfl fX7_28 (Or.inl rfl) rfl (Or.inr h23) ?_
  refine Z_aload_n (pc' := 42) dX7_init_41 rfl rfl ?_
  obtain ⟨q24, h25⟩ : ∃ q : Nat, q = (gD (sI (sR (aD (sI (sR (aD (sR μ7 p0 0 (some q1)) 11 4) p0 1 (some q10)) p0 2 0) 9 80) p0 3 (some q17)) p0 4 0)).length := ⟨_, rfl⟩
  have h26 := P.1
  have P := P.2
  have h27 := P.1
  have P := P.2
  refine Z_new (c0 := 6) (pc' := 45) dX7_init_42 rfl (by decide) h26 h27 cX7_31 n_6 u_6 ?_
  rw [← h25]
  have P := P q24 h25
  refine Z_dup (pc' := 46) dX7_init_45 rfl rfl ?_
  have h28 := P.1
  have P := P.2
  have h29 := P.1
  have P := P.2
  refine Z_callIN (M' := mX6_init) (pc' := 49) (st := [.ref q24, .ref p0]) [] dX7_init_46 rfl iX6_init lX7_33 rfl (Nat.le_of_ble_eq_true rfl) h28 h29 ?_
  refine Cl_mono P ?_
  rintro _ μ30 ⟨rfl, P⟩
  show Z S none mX7_init (d + 1) 53 4449 (qV Q) 49 [some (.ref p0), none] [.ref q24, .ref p0] μ30 ((((((0 + 1) + 5) + 1) + 1) + 1) + 1) ((((((0 + 5) + 120) + 4) + 80) + 3) + 42)
  have h31 := P.1
  have P := P.2
  have h32 := P.1
  have P := P.2
  refine Z_putR' (ji := 5) (pc' := 52) dX7_init_49 rfl rfl fX7_34 (Or.inr ⟨rfl, rfl⟩) rfl (Or.inr h31) h32 ?_
  refine Z_aload_n (pc' := 53) dX7_init_52 rfl rfl ?_
  obtain ⟨q33, h34⟩ : ∃ q : Nat, q = (gD (sR μ30 p0 5 (some q24))).length := ⟨_, rfl⟩
  have h35 := P.1
  have P := P.2
  have h36 := P.1
  have P := P.2
  refine Z_new (c0 := 4) (pc' := 56) dX7_init_53 rfl (by decide) h35 h36 cX7_38 n_4 u_4 ?_
  rw [← h34]
  have P := P q33 h34
  refine Z_dup (pc' := 57) dX7_init_56 rfl rfl ?_
  have h37 := P.1
  have P := P.2
  have h38 := P.1
  have P := P.2
  refine Z_callIN (M' := mX4_init) (pc' := 60) (st := [.ref q33, .ref p0]) [] dX7_init_57 rfl iX4_init lX7_40 rfl (Nat.le_of_ble_eq_true rfl) h37 h38 ?_
  refine Cl_mono P ?_
  rintro _ μ39 ⟨rfl, P⟩
  show Z S none mX7_init (d + 1) 53 4449 (qV Q) 60 [some (.ref p0), none] [.ref q33, .ref p0] μ39 ((((((((0 + 1) + 5) + 1) + 1) + 1) + 1) + 1) + 18) ((((((((0 + 5) + 120) + 4) + 80) + 3) + 42) + 18) + 3677)
  have h40 := P.1
  have P := P.2
  have h41 := P.1
  have P := P.2
  refine Z_putR' (ji := 6) (pc' := 63) dX7_init_60 rfl rfl fX7_41 (Or.inr ⟨rfl, rfl⟩) rfl (Or.inr h40) h41 ?_
  refine Z_iconst (pc' := 64) dX7_init_63 rfl ?_
  refine Z_istore_n (pc' := 65) (lo' := [some (.ref p0), some (vi 0)]) dX7_init_64 rfl (by decide) rfl ?_
  exact P
theorem bX7_init_65 {S : zS} {d : Nat} {Q : zMem → Prop} {μ : zMem} {k n : Nat} {p0 : Nat} {x1 : Int} (P : (zIn x1) ∧ ((4 ≤ x1 → ((k ≤ 53) ∧ ((n ≤ 4449) ∧ (Q μ)))) ∧ (¬ (4 ≤ x1) → (((gD μ)[p0]? = some (7, 0)) ∧ (∃ q6 : Nat, (gR μ p0 1 = some q6) ∧ ((k + 1 ≤ 53) ∧ ((n + 5 ≤ 4449) ∧ (∀ q8 : Nat, q8 = (gD μ).length → (((k + 1) + 5 ≤ 53) ∧ (((n + 5) + 120 ≤ 4449) ∧ (kX5_init S d q8 (aD μ 5 0) (fun μ14 : zMem => (0 ≤ x1) ∧ ((x1 < 4) ∧ (((gD μ14)[q6]? = some (11, 4)) ∧ ((S.1 q6 x1.toNat = none) ∧ (((gD μ14)[q8]? = some (5, 0)) ∧ (zX7_init_65 S d Q p0 (x1 + 1) (sR μ14 q6 x1 (some q8)) ((k + 1) + 5) ((n + 5) + 120)))))))))))))))))) : zX7_init_65 S d Q p0 x1 μ k n := by
  refine Z_iload_n (pc' := 66) dX7_init_65 rfl rfl ?_
  refine Z_iconst (pc' := 67) dX7_init_66 rfl ?_
  have h1 := P.1
  have P := P.2
  refine Z_icmp_ge (tgt := 89) (pc' := 70) dX7_init_67 (by decide) rfl h1 (z_lit rfl) (fun c2 => ?_) (fun c2 => ?_)
  · have P := P.1 c2
    have h3 := P.1
    have P := P.2
    have h4 := P.1
    have P := P.2
    exact Z_return dX7_init_89 rfl h3 h4 P
  · have P := P.2 c2
    refine Z_aload_n (pc' := 71) dX7_init_70 rfl rfl ?_
    have h5 := P.1
    have P := P.2
    obtain ⟨q6, h7, P⟩ := P
    refine Z_getR (q := q6) (pc' := 74) dX7_init_71 rfl fX7_16 rfl (Or.inr h5) (Or.inr h7) ?_
    refine Z_iload_n (pc' := 75) dX7_init_74 rfl rfl ?_
    obtain ⟨q8, h9⟩ : ∃ q : Nat, q = (gD μ).length := ⟨_, rfl⟩
    have h10 := P.1
    have P := P.2
    have h11 := P.1
    have P := P.2
    refine Z_new (c0 := 5) (pc' := 78) dX7_init_75 rfl (by decide) h10 h11 cX7_7 n_5 u_5 ?_
    rw [← h9]
    have P := P q8 h9
    refine Z_dup (pc' := 79) dX7_init_78 rfl rfl ?_
    have h12 := P.1
    have P := P.2
    have h13 := P.1
    have P := P.2
    refine Z_callI (M' := mX5_init) (pc' := 82) (st := [.ref q8, vi x1, .ref q6]) [] dX7_init_79 rfl iX5_init lX7_9 rfl (Nat.le_of_ble_eq_true rfl) h12 h13 ?_
    refine Cl_mono P ?_
    rintro _ μ14 ⟨rfl, P⟩
    show Z S none mX7_init (d + 1) 53 4449 (qV Q) 82 [some (.ref p0), some (vi x1)] [.ref q8, vi x1, .ref q6] μ14 ((k + 1) + 5) ((n + 5) + 120)
    have h15 := P.1
    have P := P.2
    have h16 := P.1
    have P := P.2
    have h17 := P.1
    have P := P.2
    have h18 := P.1
    have P := P.2
    have h19 := P.1
    have P := P.2
    refine Z_aastore (pc' := 83) dX7_init_82 rfl (Or.inr h17) (Nat.le_of_ble_eq_true rfl) h15 h16 (Or.inr h19) h18 ?_
    refine Z_iinc (pc' := 86) (lo' := [some (.ref p0), some (vi (x1 + 1))]) dX7_init_83 rfl (by decide) rfl rfl ?_
    refine Z_goto (tgt := 65) dX7_init_86 (by decide) ?_
    exact P
abbrev zX7_dropOldest_9 (d : Nat) (Q : zMem → Prop) (p1 : Nat) (x2 : Int) (μ : zMem) : Prop := Z SS none mX7_dropOldest d 0 0 (qV Q) 9 [some (.ref 0), some (.ref p1), some (vi x2)] [] μ 0 0
theorem bX7_dropOldest {d : Nat} {Q : zMem → Prop} {μ : zMem}  (P : ∃ q1 : Nat, (gR μ 7 0 = some q1) ∧ ((isSt q1) ∧ (zX7_dropOldest_9 d Q q1 1 μ))) : kX7_dropOldest d μ Q := by
  refine Cl_of rfl (Nat.le_of_ble_eq_true rfl) rfl ?_
  show Z SS none mX7_dropOldest d 0 0 (qV Q) 0 [some (.ref 0), none, none] [] μ 0 0
  refine Z_aload_n (pc' := 1) dX7_dropOldest_0 rfl rfl ?_
  refine Z_getR (q := 7) (pc' := 4) dX7_dropOldest_1 rfl fX7_16 rfl (Or.inl dd_0) (Or.inl rr_0_1) ?_
  refine Z_iconst (pc' := 5) dX7_dropOldest_4 rfl ?_
  obtain ⟨q1, h2, P⟩ := P
  have h3 := P.1
  have P := P.2
  refine Z_aaload (pc' := 6) dX7_dropOldest_5 rfl (Or.inl dd_7) (Nat.le_of_ble_eq_true rfl) (by decide) (by decide) h2 ?_
  refine Z_astore_n (pc' := 7) (lo' := [some (.ref 0), some (.ref q1), none]) dX7_dropOldest_6 rfl (by decide) rfl ?_
  refine Z_iconst (pc' := 8) dX7_dropOldest_7 rfl ?_
  refine Z_istore_n (pc' := 9) (lo' := [some (.ref 0), some (.ref q1), some (vi 1)]) dX7_dropOldest_8 rfl (by decide) rfl ?_
  exact P
theorem bX7_dropOldest_9 {d : Nat} {Q : zMem → Prop} {μ : zMem} {p1 : Nat} {x2 : Int} (hp1 : isSt p1) (P : (zIn x2) ∧ ((4 ≤ x2 → (Q (sI (sR μ 7 3 (some p1)) 0 2 3))) ∧ (¬ (4 ≤ x2) → ((0 ≤ x2) ∧ ((x2 < 4) ∧ (∃ q3 : Nat, (gR μ 7 x2 = some q3) ∧ ((isSt q3) ∧ ((0 ≤ (x2 - 1)) ∧ (((x2 - 1) < 4) ∧ (zX7_dropOldest_9 d Q p1 (x2 + 1) (sR μ 7 (x2 - 1) (some q3)))))))))))) : zX7_dropOldest_9 d Q p1 x2 μ := by
  refine Z_iload_n (pc' := 10) dX7_dropOldest_9 rfl rfl ?_
  refine Z_iconst (pc' := 11) dX7_dropOldest_10 rfl ?_
  have h1 := P.1
  have P := P.2
  refine Z_icmp_ge (tgt := 34) (pc' := 14) dX7_dropOldest_11 (by decide) rfl h1 (z_lit rfl) (fun c2 => ?_) (fun c2 => ?_)
  · have P := P.1 c2
    refine Z_aload_n (pc' := 35) dX7_dropOldest_34 rfl rfl ?_
    refine Z_getR (q := 7) (pc' := 38) dX7_dropOldest_35 rfl fX7_16 rfl (Or.inl dd_0) (Or.inl rr_0_1) ?_
    refine Z_iconst (pc' := 39) dX7_dropOldest_38 rfl ?_
    refine Z_aload_n (pc' := 40) dX7_dropOldest_39 rfl rfl ?_
    refine Z_aastore (pc' := 41) dX7_dropOldest_40 rfl (Or.inl dd_7) (Nat.le_of_ble_eq_true rfl) (by decide) (by decide) (Or.inl (st_d hp1)) (hi_r _) ?_
    refine Z_aload_n (pc' := 42) dX7_dropOldest_41 rfl rfl ?_
    refine Z_iconst (pc' := 43) dX7_dropOldest_42 rfl ?_
    refine Z_putI' (ji := 2) (pc' := 46) dX7_dropOldest_43 rfl rfl fX7_20 (Or.inl rfl) rfl (Or.inl dd_0) ?_
    exact Z_return dX7_dropOldest_46 rfl (Nat.le_refl 0) (Nat.le_refl 0) P
  · have P := P.2 c2
    refine Z_aload_n (pc' := 15) dX7_dropOldest_14 rfl rfl ?_
    refine Z_getR (q := 7) (pc' := 18) dX7_dropOldest_15 rfl fX7_16 rfl (Or.inl dd_0) (Or.inl rr_0_1) ?_
    refine Z_iload_n (pc' := 19) dX7_dropOldest_18 rfl rfl ?_
    refine Z_iconst (pc' := 20) dX7_dropOldest_19 rfl ?_
    refine Z_isub (pc' := 21) dX7_dropOldest_20 rfl ?_
    refine Z_aload_n (pc' := 22) dX7_dropOldest_21 rfl rfl ?_
    refine Z_getR (q := 7) (pc' := 25) dX7_dropOldest_22 rfl fX7_16 rfl (Or.inl dd_0) (Or.inl rr_0_1) ?_
    refine Z_iload_n (pc' := 26) dX7_dropOldest_25 rfl rfl ?_
    have h5 := P.1
    have P := P.2
    have h6 := P.1
    have P := P.2
    obtain ⟨q3, h4, P⟩ := P
    have h7 := P.1
    have P := P.2
    refine Z_aaload (pc' := 27) dX7_dropOldest_26 rfl (Or.inl dd_7) (Nat.le_of_ble_eq_true rfl) h5 h6 h4 ?_
    have h8 := P.1
    have P := P.2
    have h9 := P.1
    have P := P.2
    refine Z_aastore (pc' := 28) dX7_dropOldest_27 rfl (Or.inl dd_7) (Nat.le_of_ble_eq_true rfl) h8 h9 (Or.inl (st_d h7)) (hi_r _) ?_
    refine Z_iinc (pc' := 31) (lo' := [some (.ref 0), some (.ref p1), some (vi (x2 + 1))]) dX7_dropOldest_28 rfl (by decide) rfl rfl ?_
    refine Z_goto (tgt := 9) dX7_dropOldest_31 (by decide) ?_
    exact P
theorem bX7_remember {d : Nat} {Q : zMem → Prop} {μ : zMem}  (P : (zIn (gI μ 0 2)) ∧ (((gI μ 0 2) < 4 → ((0 ≤ (gI μ 0 2)) ∧ (∃ q3 : Nat, (gR μ 7 (gI μ 0 2) = some q3) ∧ ((isSt q3) ∧ (kX5_copyFrom d q3 1 μ (fun μ7 : zMem => Q (sI μ7 0 2 ((gI μ7 0 2) + 1)))))))) ∧ (¬ ((gI μ 0 2) < 4) → (kX7_dropOldest d μ (fun μ8 : zMem => (0 ≤ (gI μ8 0 2)) ∧ (((gI μ8 0 2) < 4) ∧ (∃ q9 : Nat, (gR μ8 7 (gI μ8 0 2) = some q9) ∧ ((isSt q9) ∧ (kX5_copyFrom d q9 1 μ8 (fun μ14 : zMem => Q (sI μ14 0 2 ((gI μ14 0 2) + 1)))))))))))) : kX7_remember (d + 1) μ Q := by
  refine Cl_of rfl (Nat.le_of_ble_eq_true rfl) rfl ?_
  show Z SS none mX7_remember (d + 1) 0 0 (qV Q) 0 [some (.ref 0)] [] μ 0 0
  refine Z_aload_n (pc' := 1) dX7_remember_0 rfl rfl ?_
  refine Z_getI' (ji := 2) (pc' := 4) dX7_remember_1 rfl rfl fX7_20 rfl (Or.inl dd_0) ?_
  refine Z_iconst (pc' := 5) dX7_remember_4 rfl ?_
  have h1 := P.1
  have P := P.2
  refine Z_icmp_lt (tgt := 12) (pc' := 8) dX7_remember_5 (by decide) rfl h1 (z_lit rfl) (fun c2 => ?_) (fun c2 => ?_)
  · have P := P.1 c2
    refine Z_aload_n (pc' := 13) dX7_remember_12 rfl rfl ?_
    refine Z_getR (q := 7) (pc' := 16) dX7_remember_13 rfl fX7_16 rfl (Or.inl dd_0) (Or.inl rr_0_1) ?_
    refine Z_aload_n (pc' := 17) dX7_remember_16 rfl rfl ?_
    refine Z_getI' (ji := 2) (pc' := 20) dX7_remember_17 rfl rfl fX7_20 rfl (Or.inl dd_0) ?_
    have h5 := P.1
    have P := P.2
    obtain ⟨q3, h4, P⟩ := P
    have h6 := P.1
    have P := P.2
    refine Z_aaload (pc' := 21) dX7_remember_20 rfl (Or.inl dd_7) (Nat.le_of_ble_eq_true rfl) h5 c2 h4 ?_
    refine Z_aload_n (pc' := 22) dX7_remember_21 rfl rfl ?_
    refine Z_getR (q := 1) (pc' := 25) dX7_remember_22 rfl fX7_10 rfl (Or.inl dd_0) (Or.inl rr_0_0) ?_
    refine Z_callV0 (M' := mX5_copyFrom) (pc' := 28) (st := []) [.ref 1] dX7_remember_25 rfl vX5_copyFrom lX7_172 (Or.inl (st_d h6)) rfl (Nat.le_of_ble_eq_true rfl) (Nat.le_refl 0) (Nat.le_refl 0) ?_
    refine Cl_mono P ?_
    rintro _ μ7 ⟨rfl, P⟩
    show Z SS none mX7_remember (d + 1) 0 0 (qV Q) 28 [some (.ref 0)] [] μ7 0 0
    refine Z_aload_n (pc' := 29) dX7_remember_28 rfl rfl ?_
    refine Z_dup (pc' := 30) dX7_remember_29 rfl rfl ?_
    refine Z_getI' (ji := 2) (pc' := 33) dX7_remember_30 rfl rfl fX7_20 rfl (Or.inl dd_0) ?_
    refine Z_iconst (pc' := 34) dX7_remember_33 rfl ?_
    refine Z_iadd (pc' := 35) dX7_remember_34 rfl ?_
    refine Z_putI' (ji := 2) (pc' := 38) dX7_remember_35 rfl rfl fX7_20 (Or.inl rfl) rfl (Or.inl dd_0) ?_
    exact Z_return dX7_remember_38 rfl (Nat.le_refl 0) (Nat.le_refl 0) P
  · have P := P.2 c2
    refine Z_aload_n (pc' := 9) dX7_remember_8 rfl rfl ?_
    refine Z_callV0 (M' := mX7_dropOldest) (pc' := 12) (st := []) [] dX7_remember_9 rfl vX7_dropOldest lX7_191 (Or.inl dd_0) rfl (Nat.le_of_ble_eq_true rfl) (Nat.le_refl 0) (Nat.le_refl 0) ?_
    refine Cl_mono P ?_
    rintro _ μ8 ⟨rfl, P⟩
    show Z SS none mX7_remember (d + 1) 0 0 (qV Q) 12 [some (.ref 0)] [] μ8 0 0
    refine Z_aload_n (pc' := 13) dX7_remember_12 rfl rfl ?_
    refine Z_getR (q := 7) (pc' := 16) dX7_remember_13 rfl fX7_16 rfl (Or.inl dd_0) (Or.inl rr_0_1) ?_
    refine Z_aload_n (pc' := 17) dX7_remember_16 rfl rfl ?_
    refine Z_getI' (ji := 2) (pc' := 20) dX7_remember_17 rfl rfl fX7_20 rfl (Or.inl dd_0) ?_
    have h11 := P.1
    have P := P.2
    have h12 := P.1
    have P := P.2
    obtain ⟨q9, h10, P⟩ := P
    have h13 := P.1
    have P := P.2
    refine Z_aaload (pc' := 21) dX7_remember_20 rfl (Or.inl dd_7) (Nat.le_of_ble_eq_true rfl) h11 h12 h10 ?_
    refine Z_aload_n (pc' := 22) dX7_remember_21 rfl rfl ?_
    refine Z_getR (q := 1) (pc' := 25) dX7_remember_22 rfl fX7_10 rfl (Or.inl dd_0) (Or.inl rr_0_0) ?_
    refine Z_callV0 (M' := mX5_copyFrom) (pc' := 28) (st := []) [.ref 1] dX7_remember_25 rfl vX5_copyFrom lX7_172 (Or.inl (st_d h13)) rfl (Nat.le_of_ble_eq_true rfl) (Nat.le_refl 0) (Nat.le_refl 0) ?_
    refine Cl_mono P ?_
    rintro _ μ14 ⟨rfl, P⟩
    show Z SS none mX7_remember (d + 1) 0 0 (qV Q) 28 [some (.ref 0)] [] μ14 0 0
    refine Z_aload_n (pc' := 29) dX7_remember_28 rfl rfl ?_
    refine Z_dup (pc' := 30) dX7_remember_29 rfl rfl ?_
    refine Z_getI' (ji := 2) (pc' := 33) dX7_remember_30 rfl rfl fX7_20 rfl (Or.inl dd_0) ?_
    refine Z_iconst (pc' := 34) dX7_remember_33 rfl ?_
    refine Z_iadd (pc' := 35) dX7_remember_34 rfl ?_
    refine Z_putI' (ji := 2) (pc' := 38) dX7_remember_35 rfl rfl fX7_20 (Or.inl rfl) rfl (Or.inl dd_0) ?_
    exact Z_return dX7_remember_38 rfl (Nat.le_refl 0) (Nat.le_refl 0) P
theorem bX7_addShape {d : Nat} {Q : Int → zMem → Prop} {μ : zMem} {x1 : Int} {x2 : Int} {x3 : Int} {x4 : Int} {x5 : Int} (P : kX7_isIn d x1 0 3 μ (fun (r2 : Int) (μ1 : zMem) => (zIn r2) ∧ ((r2 = 0 → (Q (-3) μ1)) ∧ (¬ (r2 = 0) → (kX7_isBox d x2 x3 x4 x5 μ1 (fun (r6 : Int) (μ5 : zMem) => (zIn r6) ∧ ((r6 = 0 → (Q (-3) μ5)) ∧ (¬ (r6 = 0) → ((zIn (gI μ5 2 0)) ∧ (((gI μ5 2 0) < 6 → (kX7_remember d μ5 (fun μ11 : zMem => kX1_append d x1 x2 x3 x4 x5 μ11 (fun μ12 : zMem => Q ((gI μ12 2 0) - 1) μ12)))) ∧ (¬ ((gI μ5 2 0) < 6) → (Q (-5) μ5)))))))))))) : kX7_addShape (d + 1) x1 x2 x3 x4 x5 μ Q := by
  refine Cl_of rfl (Nat.le_of_ble_eq_true rfl) rfl ?_
  show Z SS none mX7_addShape (d + 1) 0 0 (qI Q) 0 [some (.ref 0), some (vi x1), some (vi x2), some (vi x3), some (vi x4), some (vi x5)] [] μ 0 0
  refine Z_iload_n (pc' := 1) dX7_addShape_0 rfl rfl ?_
  refine Z_iconst (pc' := 2) dX7_addShape_1 rfl ?_
  refine Z_iconst (pc' := 3) dX7_addShape_2 rfl ?_
  refine Z_callS0 (M' := mX7_isIn) (pc' := 6) (st := []) [vi x1, vi 0, vi 3] dX7_addShape_3 rfl sX7_isIn lX7_45 rfl (Nat.le_of_ble_eq_true rfl) (Nat.le_refl 0) (Nat.le_refl 0) ?_
  refine Cl_mono P ?_
  rintro _ μ1 ⟨r2, rfl, P⟩
  show Z SS none mX7_addShape (d + 1) 0 0 (qI Q) 6 [some (.ref 0), some (vi x1), some (vi x2), some (vi x3), some (vi x4), some (vi x5)] [vi r2] μ1 0 0
  have h3 := P.1
  have P := P.2
  refine Z_if_eq (tgt := 21) (pc' := 9) dX7_addShape_6 (by decide) rfl h3 (fun c4 => ?_) (fun c4 => ?_)
  · have P := P.1 c4
    refine Z_bipush (pc' := 23) dX7_addShape_21 rfl rfl ?_
    exact Z_ireturn dX7_addShape_23 rfl (Nat.le_refl 0) (Nat.le_refl 0) P
  · have P := P.2 c4
    refine Z_iload_n (pc' := 10) dX7_addShape_9 rfl rfl ?_
    refine Z_iload_n (pc' := 11) dX7_addShape_10 rfl rfl ?_
    refine Z_iload (pc' := 13) dX7_addShape_11 rfl rfl ?_
    refine Z_iload (pc' := 15) dX7_addShape_13 rfl rfl ?_
    refine Z_callS0 (M' := mX7_isBox) (pc' := 18) (st := []) [vi x2, vi x3, vi x4, vi x5] dX7_addShape_15 rfl sX7_isBox lX7_49 rfl (Nat.le_of_ble_eq_true rfl) (Nat.le_refl 0) (Nat.le_refl 0) ?_
    refine Cl_mono P ?_
    rintro _ μ5 ⟨r6, rfl, P⟩
    show Z SS none mX7_addShape (d + 1) 0 0 (qI Q) 18 [some (.ref 0), some (vi x1), some (vi x2), some (vi x3), some (vi x4), some (vi x5)] [vi r6] μ5 0 0
    have h7 := P.1
    have P := P.2
    refine Z_if_ne (tgt := 24) (pc' := 21) dX7_addShape_18 (by decide) rfl h7 (fun c8 => ?_) (fun c8 => ?_)
    · have P := P.2 c8
      refine Z_aload_n (pc' := 25) dX7_addShape_24 rfl rfl ?_
      refine Z_getR (q := 1) (pc' := 28) dX7_addShape_25 rfl fX7_10 rfl (Or.inl dd_0) (Or.inl rr_0_0) ?_
      refine Z_getR (q := 2) (pc' := 31) dX7_addShape_28 rfl fX7_53 rfl (Or.inl dd_1) (Or.inl rr_1_0) ?_
      refine Z_getI' (ji := 0) (pc' := 34) dX7_addShape_31 rfl rfl fX7_57 rfl (Or.inl dd_2) ?_
      refine Z_bipush (pc' := 36) dX7_addShape_34 rfl rfl ?_
      have h9 := P.1
      have P := P.2
      refine Z_icmp_lt (tgt := 42) (pc' := 39) dX7_addShape_36 (by decide) rfl h9 (z_lit rfl) (fun c10 => ?_) (fun c10 => ?_)
      · have P := P.1 c10
        refine Z_aload_n (pc' := 43) dX7_addShape_42 rfl rfl ?_
        refine Z_callV0 (M' := mX7_remember) (pc' := 46) (st := []) [] dX7_addShape_43 rfl vX7_remember lX7_62 (Or.inl dd_0) rfl (Nat.le_of_ble_eq_true rfl) (Nat.le_refl 0) (Nat.le_refl 0) ?_
        refine Cl_mono P ?_
        rintro _ μ11 ⟨rfl, P⟩
        show Z SS none mX7_addShape (d + 1) 0 0 (qI Q) 46 [some (.ref 0), some (vi x1), some (vi x2), some (vi x3), some (vi x4), some (vi x5)] [] μ11 0 0
        refine Z_aload_n (pc' := 47) dX7_addShape_46 rfl rfl ?_
        refine Z_getR (q := 1) (pc' := 50) dX7_addShape_47 rfl fX7_10 rfl (Or.inl dd_0) (Or.inl rr_0_0) ?_
        refine Z_getR (q := 2) (pc' := 53) dX7_addShape_50 rfl fX7_53 rfl (Or.inl dd_1) (Or.inl rr_1_0) ?_
        refine Z_iload_n (pc' := 54) dX7_addShape_53 rfl rfl ?_
        refine Z_iload_n (pc' := 55) dX7_addShape_54 rfl rfl ?_
        refine Z_iload_n (pc' := 56) dX7_addShape_55 rfl rfl ?_
        refine Z_iload (pc' := 58) dX7_addShape_56 rfl rfl ?_
        refine Z_iload (pc' := 60) dX7_addShape_58 rfl rfl ?_
        refine Z_callV0 (M' := mX1_append) (pc' := 63) (st := []) [vi x1, vi x2, vi x3, vi x4, vi x5] dX7_addShape_60 rfl vX1_append lX7_65 (Or.inl dd_2) rfl (Nat.le_of_ble_eq_true rfl) (Nat.le_refl 0) (Nat.le_refl 0) ?_
        refine Cl_mono P ?_
        rintro _ μ12 ⟨rfl, P⟩
        show Z SS none mX7_addShape (d + 1) 0 0 (qI Q) 63 [some (.ref 0), some (vi x1), some (vi x2), some (vi x3), some (vi x4), some (vi x5)] [] μ12 0 0
        refine Z_aload_n (pc' := 64) dX7_addShape_63 rfl rfl ?_
        refine Z_getR (q := 1) (pc' := 67) dX7_addShape_64 rfl fX7_10 rfl (Or.inl dd_0) (Or.inl rr_0_0) ?_
        refine Z_getR (q := 2) (pc' := 70) dX7_addShape_67 rfl fX7_53 rfl (Or.inl dd_1) (Or.inl rr_1_0) ?_
        refine Z_getI' (ji := 0) (pc' := 73) dX7_addShape_70 rfl rfl fX7_57 rfl (Or.inl dd_2) ?_
        refine Z_iconst (pc' := 74) dX7_addShape_73 rfl ?_
        refine Z_isub (pc' := 75) dX7_addShape_74 rfl ?_
        exact Z_ireturn dX7_addShape_75 rfl (Nat.le_refl 0) (Nat.le_refl 0) P
      · have P := P.2 c10
        refine Z_bipush (pc' := 41) dX7_addShape_39 rfl rfl ?_
        exact Z_ireturn dX7_addShape_41 rfl (Nat.le_refl 0) (Nat.le_refl 0) P
    · have P := P.1 c8
      refine Z_bipush (pc' := 23) dX7_addShape_21 rfl rfl ?_
      exact Z_ireturn dX7_addShape_23 rfl (Nat.le_refl 0) (Nat.le_refl 0) P
theorem bX7_moveShape {d : Nat} {Q : Int → zMem → Prop} {μ : zMem} {x1 : Int} {x2 : Int} {x3 : Int} (P : kX7_isIn d x1 0 ((gI μ 2 0) - 1) μ (fun (r2 : Int) (μ1 : zMem) => (zIn r2) ∧ ((r2 = 0 → (Q (-2) μ1)) ∧ (¬ (r2 = 0) → (kX7_isIn d x2 (-47) 47 μ1 (fun (r6 : Int) (μ5 : zMem) => (zIn r6) ∧ ((r6 = 0 → (Q (-3) μ5)) ∧ (¬ (r6 = 0) → (kX7_isIn d x3 (-35) 35 μ5 (fun (r10 : Int) (μ9 : zMem) => (zIn r10) ∧ ((r10 = 0 → (Q (-3) μ9)) ∧ (¬ (r10 = 0) → (kX1_canShift d x1 x2 x3 μ9 (fun (r14 : Int) (μ13 : zMem) => (zIn r14) ∧ ((r14 = 0 → (Q (-3) μ13)) ∧ (¬ (r14 = 0) → (kX7_remember d μ13 (fun μ17 : zMem => kX1_shift d x1 x2 x3 μ17 (fun μ18 : zMem => kX1_freeCells d μ18 (fun (r20 : Int) (μ19 : zMem) => Q r20 μ19)))))))))))))))))))) : kX7_moveShape (d + 1) x1 x2 x3 μ Q := by
  refine Cl_of rfl (Nat.le_of_ble_eq_true rfl) rfl ?_
  show Z SS none mX7_moveShape (d + 1) 0 0 (qI Q) 0 [some (.ref 0), some (vi x1), some (vi x2), some (vi x3)] [] μ 0 0
  refine Z_iload_n (pc' := 1) dX7_moveShape_0 rfl rfl ?_
  refine Z_iconst (pc' := 2) dX7_moveShape_1 rfl ?_
  refine Z_aload_n (pc' := 3) dX7_moveShape_2 rfl rfl ?_
  refine Z_getR (q := 1) (pc' := 6) dX7_moveShape_3 rfl fX7_10 rfl (Or.inl dd_0) (Or.inl rr_0_0) ?_
  refine Z_getR (q := 2) (pc' := 9) dX7_moveShape_6 rfl fX7_53 rfl (Or.inl dd_1) (Or.inl rr_1_0) ?_
  refine Z_getI' (ji := 0) (pc' := 12) dX7_moveShape_9 rfl rfl fX7_57 rfl (Or.inl dd_2) ?_
  refine Z_iconst (pc' := 13) dX7_moveShape_12 rfl ?_
  refine Z_isub (pc' := 14) dX7_moveShape_13 rfl ?_
  refine Z_callS0 (M' := mX7_isIn) (pc' := 17) (st := []) [vi x1, vi 0, vi ((gI μ 2 0) - 1)] dX7_moveShape_14 rfl sX7_isIn lX7_45 rfl (Nat.le_of_ble_eq_true rfl) (Nat.le_refl 0) (Nat.le_refl 0) ?_
  refine Cl_mono P ?_
  rintro _ μ1 ⟨r2, rfl, P⟩
  show Z SS none mX7_moveShape (d + 1) 0 0 (qI Q) 17 [some (.ref 0), some (vi x1), some (vi x2), some (vi x3)] [vi r2] μ1 0 0
  have h3 := P.1
  have P := P.2
  refine Z_if_ne (tgt := 23) (pc' := 20) dX7_moveShape_17 (by decide) rfl h3 (fun c4 => ?_) (fun c4 => ?_)
  · have P := P.2 c4
    refine Z_iload_n (pc' := 24) dX7_moveShape_23 rfl rfl ?_
    refine Z_bipush (pc' := 26) dX7_moveShape_24 rfl rfl ?_
    refine Z_bipush (pc' := 28) dX7_moveShape_26 rfl rfl ?_
    refine Z_callS0 (M' := mX7_isIn) (pc' := 31) (st := []) [vi x2, vi (-47), vi 47] dX7_moveShape_28 rfl sX7_isIn lX7_45 rfl (Nat.le_of_ble_eq_true rfl) (Nat.le_refl 0) (Nat.le_refl 0) ?_
    refine Cl_mono P ?_
    rintro _ μ5 ⟨r6, rfl, P⟩
    show Z SS none mX7_moveShape (d + 1) 0 0 (qI Q) 31 [some (.ref 0), some (vi x1), some (vi x2), some (vi x3)] [vi r6] μ5 0 0
    have h7 := P.1
    have P := P.2
    refine Z_if_eq (tgt := 61) (pc' := 34) dX7_moveShape_31 (by decide) rfl h7 (fun c8 => ?_) (fun c8 => ?_)
    · have P := P.1 c8
      refine Z_bipush (pc' := 63) dX7_moveShape_61 rfl rfl ?_
      exact Z_ireturn dX7_moveShape_63 rfl (Nat.le_refl 0) (Nat.le_refl 0) P
    · have P := P.2 c8
      refine Z_iload_n (pc' := 35) dX7_moveShape_34 rfl rfl ?_
      refine Z_bipush (pc' := 37) dX7_moveShape_35 rfl rfl ?_
      refine Z_bipush (pc' := 39) dX7_moveShape_37 rfl rfl ?_
      refine Z_callS0 (M' := mX7_isIn) (pc' := 42) (st := []) [vi x3, vi (-35), vi 35] dX7_moveShape_39 rfl sX7_isIn lX7_45 rfl (Nat.le_of_ble_eq_true rfl) (Nat.le_refl 0) (Nat.le_refl 0) ?_
      refine Cl_mono P ?_
      rintro _ μ9 ⟨r10, rfl, P⟩
      show Z SS none mX7_moveShape (d + 1) 0 0 (qI Q) 42 [some (.ref 0), some (vi x1), some (vi x2), some (vi x3)] [vi r10] μ9 0 0
      have h11 := P.1
      have P := P.2
      refine Z_if_eq (tgt := 61) (pc' := 45) dX7_moveShape_42 (by decide) rfl h11 (fun c12 => ?_) (fun c12 => ?_)
      · have P := P.1 c12
        refine Z_bipush (pc' := 63) dX7_moveShape_61 rfl rfl ?_
        exact Z_ireturn dX7_moveShape_63 rfl (Nat.le_refl 0) (Nat.le_refl 0) P
      · have P := P.2 c12
        refine Z_aload_n (pc' := 46) dX7_moveShape_45 rfl rfl ?_
        refine Z_getR (q := 1) (pc' := 49) dX7_moveShape_46 rfl fX7_10 rfl (Or.inl dd_0) (Or.inl rr_0_0) ?_
        refine Z_getR (q := 2) (pc' := 52) dX7_moveShape_49 rfl fX7_53 rfl (Or.inl dd_1) (Or.inl rr_1_0) ?_
        refine Z_iload_n (pc' := 53) dX7_moveShape_52 rfl rfl ?_
        refine Z_iload_n (pc' := 54) dX7_moveShape_53 rfl rfl ?_
        refine Z_iload_n (pc' := 55) dX7_moveShape_54 rfl rfl ?_
        refine Z_callV0 (M' := mX1_canShift) (pc' := 58) (st := []) [vi x1, vi x2, vi x3] dX7_moveShape_55 rfl vX1_canShift lX7_69 (Or.inl dd_2) rfl (Nat.le_of_ble_eq_true rfl) (Nat.le_refl 0) (Nat.le_refl 0) ?_
        refine Cl_mono P ?_
        rintro _ μ13 ⟨r14, rfl, P⟩
        show Z SS none mX7_moveShape (d + 1) 0 0 (qI Q) 58 [some (.ref 0), some (vi x1), some (vi x2), some (vi x3)] [vi r14] μ13 0 0
        have h15 := P.1
        have P := P.2
        refine Z_if_ne (tgt := 64) (pc' := 61) dX7_moveShape_58 (by decide) rfl h15 (fun c16 => ?_) (fun c16 => ?_)
        · have P := P.2 c16
          refine Z_aload_n (pc' := 65) dX7_moveShape_64 rfl rfl ?_
          refine Z_callV0 (M' := mX7_remember) (pc' := 68) (st := []) [] dX7_moveShape_65 rfl vX7_remember lX7_62 (Or.inl dd_0) rfl (Nat.le_of_ble_eq_true rfl) (Nat.le_refl 0) (Nat.le_refl 0) ?_
          refine Cl_mono P ?_
          rintro _ μ17 ⟨rfl, P⟩
          show Z SS none mX7_moveShape (d + 1) 0 0 (qI Q) 68 [some (.ref 0), some (vi x1), some (vi x2), some (vi x3)] [] μ17 0 0
          refine Z_aload_n (pc' := 69) dX7_moveShape_68 rfl rfl ?_
          refine Z_getR (q := 1) (pc' := 72) dX7_moveShape_69 rfl fX7_10 rfl (Or.inl dd_0) (Or.inl rr_0_0) ?_
          refine Z_getR (q := 2) (pc' := 75) dX7_moveShape_72 rfl fX7_53 rfl (Or.inl dd_1) (Or.inl rr_1_0) ?_
          refine Z_iload_n (pc' := 76) dX7_moveShape_75 rfl rfl ?_
          refine Z_iload_n (pc' := 77) dX7_moveShape_76 rfl rfl ?_
          refine Z_iload_n (pc' := 78) dX7_moveShape_77 rfl rfl ?_
          refine Z_callV0 (M' := mX1_shift) (pc' := 81) (st := []) [vi x1, vi x2, vi x3] dX7_moveShape_78 rfl vX1_shift lX7_72 (Or.inl dd_2) rfl (Nat.le_of_ble_eq_true rfl) (Nat.le_refl 0) (Nat.le_refl 0) ?_
          refine Cl_mono P ?_
          rintro _ μ18 ⟨rfl, P⟩
          show Z SS none mX7_moveShape (d + 1) 0 0 (qI Q) 81 [some (.ref 0), some (vi x1), some (vi x2), some (vi x3)] [] μ18 0 0
          refine Z_aload_n (pc' := 82) dX7_moveShape_81 rfl rfl ?_
          refine Z_getR (q := 1) (pc' := 85) dX7_moveShape_82 rfl fX7_10 rfl (Or.inl dd_0) (Or.inl rr_0_0) ?_
          refine Z_getR (q := 2) (pc' := 88) dX7_moveShape_85 rfl fX7_53 rfl (Or.inl dd_1) (Or.inl rr_1_0) ?_
          refine Z_callV0 (M' := mX1_freeCells) (pc' := 91) (st := []) [] dX7_moveShape_88 rfl vX1_freeCells lX7_76 (Or.inl dd_2) rfl (Nat.le_of_ble_eq_true rfl) (Nat.le_refl 0) (Nat.le_refl 0) ?_
          refine Cl_mono P ?_
          rintro _ μ19 ⟨r20, rfl, P⟩
          show Z SS none mX7_moveShape (d + 1) 0 0 (qI Q) 91 [some (.ref 0), some (vi x1), some (vi x2), some (vi x3)] [vi r20] μ19 0 0
          exact Z_ireturn dX7_moveShape_91 rfl (Nat.le_refl 0) (Nat.le_refl 0) P
        · have P := P.1 c16
          refine Z_bipush (pc' := 63) dX7_moveShape_61 rfl rfl ?_
          exact Z_ireturn dX7_moveShape_63 rfl (Nat.le_refl 0) (Nat.le_refl 0) P
  · have P := P.1 c4
    refine Z_bipush (pc' := 22) dX7_moveShape_20 rfl rfl ?_
    exact Z_ireturn dX7_moveShape_22 rfl (Nat.le_refl 0) (Nat.le_refl 0) P
theorem bX7_removeShape {d : Nat} {Q : Int → zMem → Prop} {μ : zMem} {x1 : Int} (P : kX7_isIn d x1 0 ((gI μ 2 0) - 1) μ (fun (r2 : Int) (μ1 : zMem) => (zIn r2) ∧ ((r2 = 0 → (Q (-2) μ1)) ∧ (¬ (r2 = 0) → (kX7_remember d μ1 (fun μ5 : zMem => kX1_drop d x1 μ5 (fun μ6 : zMem => Q (gI μ6 2 0) μ6))))))) : kX7_removeShape (d + 1) x1 μ Q := by
  refine Cl_of rfl (Nat.le_of_ble_eq_true rfl) rfl ?_
  show Z SS none mX7_removeShape (d + 1) 0 0 (qI Q) 0 [some (.ref 0), some (vi x1)] [] μ 0 0
  refine Z_iload_n (pc' := 1) dX7_removeShape_0 rfl rfl ?_
  refine Z_iconst (pc' := 2) dX7_removeShape_1 rfl ?_
  refine Z_aload_n (pc' := 3) dX7_removeShape_2 rfl rfl ?_
  refine Z_getR (q := 1) (pc' := 6) dX7_removeShape_3 rfl fX7_10 rfl (Or.inl dd_0) (Or.inl rr_0_0) ?_
  refine Z_getR (q := 2) (pc' := 9) dX7_removeShape_6 rfl fX7_53 rfl (Or.inl dd_1) (Or.inl rr_1_0) ?_
  refine Z_getI' (ji := 0) (pc' := 12) dX7_removeShape_9 rfl rfl fX7_57 rfl (Or.inl dd_2) ?_
  refine Z_iconst (pc' := 13) dX7_removeShape_12 rfl ?_
  refine Z_isub (pc' := 14) dX7_removeShape_13 rfl ?_
  refine Z_callS0 (M' := mX7_isIn) (pc' := 17) (st := []) [vi x1, vi 0, vi ((gI μ 2 0) - 1)] dX7_removeShape_14 rfl sX7_isIn lX7_45 rfl (Nat.le_of_ble_eq_true rfl) (Nat.le_refl 0) (Nat.le_refl 0) ?_
  refine Cl_mono P ?_
  rintro _ μ1 ⟨r2, rfl, P⟩
  show Z SS none mX7_removeShape (d + 1) 0 0 (qI Q) 17 [some (.ref 0), some (vi x1)] [vi r2] μ1 0 0
  have h3 := P.1
  have P := P.2
  refine Z_if_ne (tgt := 23) (pc' := 20) dX7_removeShape_17 (by decide) rfl h3 (fun c4 => ?_) (fun c4 => ?_)
  · have P := P.2 c4
    refine Z_aload_n (pc' := 24) dX7_removeShape_23 rfl rfl ?_
    refine Z_callV0 (M' := mX7_remember) (pc' := 27) (st := []) [] dX7_removeShape_24 rfl vX7_remember lX7_62 (Or.inl dd_0) rfl (Nat.le_of_ble_eq_true rfl) (Nat.le_refl 0) (Nat.le_refl 0) ?_
    refine Cl_mono P ?_
    rintro _ μ5 ⟨rfl, P⟩
    show Z SS none mX7_removeShape (d + 1) 0 0 (qI Q) 27 [some (.ref 0), some (vi x1)] [] μ5 0 0
    refine Z_aload_n (pc' := 28) dX7_removeShape_27 rfl rfl ?_
    refine Z_getR (q := 1) (pc' := 31) dX7_removeShape_28 rfl fX7_10 rfl (Or.inl dd_0) (Or.inl rr_0_0) ?_
    refine Z_getR (q := 2) (pc' := 34) dX7_removeShape_31 rfl fX7_53 rfl (Or.inl dd_1) (Or.inl rr_1_0) ?_
    refine Z_iload_n (pc' := 35) dX7_removeShape_34 rfl rfl ?_
    refine Z_callV0 (M' := mX1_drop) (pc' := 38) (st := []) [vi x1] dX7_removeShape_35 rfl vX1_drop lX7_80 (Or.inl dd_2) rfl (Nat.le_of_ble_eq_true rfl) (Nat.le_refl 0) (Nat.le_refl 0) ?_
    refine Cl_mono P ?_
    rintro _ μ6 ⟨rfl, P⟩
    show Z SS none mX7_removeShape (d + 1) 0 0 (qI Q) 38 [some (.ref 0), some (vi x1)] [] μ6 0 0
    refine Z_aload_n (pc' := 39) dX7_removeShape_38 rfl rfl ?_
    refine Z_getR (q := 1) (pc' := 42) dX7_removeShape_39 rfl fX7_10 rfl (Or.inl dd_0) (Or.inl rr_0_0) ?_
    refine Z_getR (q := 2) (pc' := 45) dX7_removeShape_42 rfl fX7_53 rfl (Or.inl dd_1) (Or.inl rr_1_0) ?_
    refine Z_getI' (ji := 0) (pc' := 48) dX7_removeShape_45 rfl rfl fX7_57 rfl (Or.inl dd_2) ?_
    exact Z_ireturn dX7_removeShape_48 rfl (Nat.le_refl 0) (Nat.le_refl 0) P
  · have P := P.1 c4
    refine Z_bipush (pc' := 22) dX7_removeShape_20 rfl rfl ?_
    exact Z_ireturn dX7_removeShape_22 rfl (Nat.le_refl 0) (Nat.le_refl 0) P
theorem bX7_isFree {d : Nat} {Q : Int → zMem → Prop} {μ : zMem} {x1 : Int} {x2 : Int} (P : kX7_isIn d x1 0 47 μ (fun (r2 : Int) (μ1 : zMem) => (zIn r2) ∧ ((r2 = 0 → (Q (-3) μ1)) ∧ (¬ (r2 = 0) → (kX7_isIn d x2 0 35 μ1 (fun (r6 : Int) (μ5 : zMem) => (zIn r6) ∧ ((r6 = 0 → (Q (-3) μ5)) ∧ (¬ (r6 = 0) → (kX1_isFreeAt d x1 x2 μ5 (fun (r10 : Int) (μ9 : zMem) => ((zIn r10)) ∧ (Q (if r10 = 0 then 0 else 1) μ9))))))))))) : kX7_isFree (d + 1) x1 x2 μ Q := by
  refine Cl_of rfl (Nat.le_of_ble_eq_true rfl) rfl ?_
  show Z SS none mX7_isFree (d + 1) 0 0 (qI Q) 0 [some (.ref 0), some (vi x1), some (vi x2)] [] μ 0 0
  refine Z_iload_n (pc' := 1) dX7_isFree_0 rfl rfl ?_
  refine Z_iconst (pc' := 2) dX7_isFree_1 rfl ?_
  refine Z_bipush (pc' := 4) dX7_isFree_2 rfl rfl ?_
  refine Z_callS0 (M' := mX7_isIn) (pc' := 7) (st := []) [vi x1, vi 0, vi 47] dX7_isFree_4 rfl sX7_isIn lX7_45 rfl (Nat.le_of_ble_eq_true rfl) (Nat.le_refl 0) (Nat.le_refl 0) ?_
  refine Cl_mono P ?_
  rintro _ μ1 ⟨r2, rfl, P⟩
  show Z SS none mX7_isFree (d + 1) 0 0 (qI Q) 7 [some (.ref 0), some (vi x1), some (vi x2)] [vi r2] μ1 0 0
  have h3 := P.1
  have P := P.2
  refine Z_if_eq (tgt := 20) (pc' := 10) dX7_isFree_7 (by decide) rfl h3 (fun c4 => ?_) (fun c4 => ?_)
  · have P := P.1 c4
    refine Z_bipush (pc' := 22) dX7_isFree_20 rfl rfl ?_
    exact Z_ireturn dX7_isFree_22 rfl (Nat.le_refl 0) (Nat.le_refl 0) P
  · have P := P.2 c4
    refine Z_iload_n (pc' := 11) dX7_isFree_10 rfl rfl ?_
    refine Z_iconst (pc' := 12) dX7_isFree_11 rfl ?_
    refine Z_bipush (pc' := 14) dX7_isFree_12 rfl rfl ?_
    refine Z_callS0 (M' := mX7_isIn) (pc' := 17) (st := []) [vi x2, vi 0, vi 35] dX7_isFree_14 rfl sX7_isIn lX7_45 rfl (Nat.le_of_ble_eq_true rfl) (Nat.le_refl 0) (Nat.le_refl 0) ?_
    refine Cl_mono P ?_
    rintro _ μ5 ⟨r6, rfl, P⟩
    show Z SS none mX7_isFree (d + 1) 0 0 (qI Q) 17 [some (.ref 0), some (vi x1), some (vi x2)] [vi r6] μ5 0 0
    have h7 := P.1
    have P := P.2
    refine Z_if_ne (tgt := 23) (pc' := 20) dX7_isFree_17 (by decide) rfl h7 (fun c8 => ?_) (fun c8 => ?_)
    · have P := P.2 c8
      refine Z_aload_n (pc' := 24) dX7_isFree_23 rfl rfl ?_
      refine Z_getR (q := 1) (pc' := 27) dX7_isFree_24 rfl fX7_10 rfl (Or.inl dd_0) (Or.inl rr_0_0) ?_
      refine Z_getR (q := 2) (pc' := 30) dX7_isFree_27 rfl fX7_53 rfl (Or.inl dd_1) (Or.inl rr_1_0) ?_
      refine Z_iload_n (pc' := 31) dX7_isFree_30 rfl rfl ?_
      refine Z_iload_n (pc' := 32) dX7_isFree_31 rfl rfl ?_
      refine Z_callV0 (M' := mX1_isFreeAt) (pc' := 35) (st := []) [vi x1, vi x2] dX7_isFree_32 rfl vX1_isFreeAt lX7_84 (Or.inl dd_2) rfl (Nat.le_of_ble_eq_true rfl) (Nat.le_refl 0) (Nat.le_refl 0) ?_
      refine Cl_mono P ?_
      rintro _ μ9 ⟨r10, rfl, P⟩
      show Z SS none mX7_isFree (d + 1) 0 0 (qI Q) 35 [some (.ref 0), some (vi x1), some (vi x2)] [vi r10] μ9 0 0
      have K : ∀ t13 : Int, t13 = (if r10 = 0 then 0 else 1) → Z SS none mX7_isFree (d + 1) 0 0 (qI Q) 43 [some (.ref 0), some (vi x1), some (vi x2)] [vi t13] μ9 0 0 := by
        rintro _ rfl
        have P := P.2
        exact Z_ireturn dX7_isFree_43 rfl (Nat.le_refl 0) (Nat.le_refl 0) P
      have G := P.1
      have h11 := G
      refine Z_if_eq (tgt := 42) (pc' := 38) dX7_isFree_35 (by decide) rfl h11 (fun c12 => ?_) (fun c12 => ?_)
      · refine Z_iconst (pc' := 43) dX7_isFree_42 rfl ?_
        exact K _ (by rw [if_pos c12])
      · refine Z_iconst (pc' := 39) dX7_isFree_38 rfl ?_
        refine Z_goto (tgt := 43) dX7_isFree_39 (by decide) ?_
        exact K _ (by rw [if_neg c12])
    · have P := P.1 c8
      refine Z_bipush (pc' := 22) dX7_isFree_20 rfl rfl ?_
      exact Z_ireturn dX7_isFree_22 rfl (Nat.le_refl 0) (Nat.le_refl 0) P
theorem bX7_isBand {d : Nat} {Q : Int → zMem → Prop} {μ : zMem} {x0 : Int} {x1 : Int} (P : kX7_isIn d x0 0 35 μ (fun (r2 : Int) (μ1 : zMem) => (zIn r2) ∧ ((r2 = 0 → (Q 0 μ1)) ∧ (¬ (r2 = 0) → (kX7_isIn d x1 1 36 μ1 (fun (r6 : Int) (μ5 : zMem) => ((zIn r6) ∧ ((r6 = 0 → True) ∧ (¬ (r6 = 0) → (zIn (x0 + x1))))) ∧ (Q (if r6 = 0 then 0 else (if 36 < (x0 + x1) then 0 else 1)) μ5))))))) : kX7_isBand (d + 1) x0 x1 μ Q := by
  refine Cl_of rfl (Nat.le_of_ble_eq_true rfl) rfl ?_
  show Z SS none mX7_isBand (d + 1) 0 0 (qI Q) 0 [some (vi x0), some (vi x1)] [] μ 0 0
  refine Z_iload_n (pc' := 1) dX7_isBand_0 rfl rfl ?_
  refine Z_iconst (pc' := 2) dX7_isBand_1 rfl ?_
  refine Z_bipush (pc' := 4) dX7_isBand_2 rfl rfl ?_
  refine Z_callS0 (M' := mX7_isIn) (pc' := 7) (st := []) [vi x0, vi 0, vi 35] dX7_isBand_4 rfl sX7_isIn lX7_45 rfl (Nat.le_of_ble_eq_true rfl) (Nat.le_refl 0) (Nat.le_refl 0) ?_
  refine Cl_mono P ?_
  rintro _ μ1 ⟨r2, rfl, P⟩
  show Z SS none mX7_isBand (d + 1) 0 0 (qI Q) 7 [some (vi x0), some (vi x1)] [vi r2] μ1 0 0
  have h3 := P.1
  have P := P.2
  refine Z_if_eq (tgt := 32) (pc' := 10) dX7_isBand_7 (by decide) rfl h3 (fun c4 => ?_) (fun c4 => ?_)
  · have P := P.1 c4
    refine Z_iconst (pc' := 33) dX7_isBand_32 rfl ?_
    exact Z_zreturn dX7_isBand_33 rfl (Or.inl rfl) (Nat.le_refl 0) (Nat.le_refl 0) P
  · have P := P.2 c4
    refine Z_iload_n (pc' := 11) dX7_isBand_10 rfl rfl ?_
    refine Z_iconst (pc' := 12) dX7_isBand_11 rfl ?_
    refine Z_bipush (pc' := 14) dX7_isBand_12 rfl rfl ?_
    refine Z_callS0 (M' := mX7_isIn) (pc' := 17) (st := []) [vi x1, vi 1, vi 36] dX7_isBand_14 rfl sX7_isIn lX7_45 rfl (Nat.le_of_ble_eq_true rfl) (Nat.le_refl 0) (Nat.le_refl 0) ?_
    refine Cl_mono P ?_
    rintro _ μ5 ⟨r6, rfl, P⟩
    show Z SS none mX7_isBand (d + 1) 0 0 (qI Q) 17 [some (vi x0), some (vi x1)] [vi r6] μ5 0 0
    have K : ∀ t11 : Int, t11 = (if r6 = 0 then 0 else (if 36 < (x0 + x1) then 0 else 1)) → Z SS none mX7_isBand (d + 1) 0 0 (qI Q) 33 [some (vi x0), some (vi x1)] [vi t11] μ5 0 0 := by
      rintro _ rfl
      have P := P.2
      exact Z_zreturn dX7_isBand_33 rfl (by (repeat' split) <;> simp) (Nat.le_refl 0) (Nat.le_refl 0) P
    have G := P.1
    have h7 := G.1
    have G := G.2
    refine Z_if_eq (tgt := 32) (pc' := 20) dX7_isBand_17 (by decide) rfl h7 (fun c8 => ?_) (fun c8 => ?_)
    · refine Z_iconst (pc' := 33) dX7_isBand_32 rfl ?_
      exact K _ (by rw [if_pos c8])
    · have G := G.2 c8
      refine Z_iload_n (pc' := 21) dX7_isBand_20 rfl rfl ?_
      refine Z_iload_n (pc' := 22) dX7_isBand_21 rfl rfl ?_
      refine Z_iadd (pc' := 23) dX7_isBand_22 rfl ?_
      refine Z_bipush (pc' := 25) dX7_isBand_23 rfl rfl ?_
      have h9 := G
      refine Z_icmp_gt (tgt := 32) (pc' := 28) dX7_isBand_25 (by decide) rfl h9 (z_lit rfl) (fun c10 => ?_) (fun c10 => ?_)
      · refine Z_iconst (pc' := 33) dX7_isBand_32 rfl ?_
        exact K _ (by rw [if_neg c8, if_pos c10])
      · refine Z_iconst (pc' := 29) dX7_isBand_28 rfl ?_
        refine Z_goto (tgt := 33) dX7_isBand_29 (by decide) ?_
        exact K _ (by rw [if_neg c8, if_neg c10])
theorem bX7_span {d : Nat} {Q : Int → zMem → Prop} {μ : zMem} {x1 : Int} {x2 : Int} {x3 : Int} (P : kX7_isBand d x1 x2 μ (fun (r2 : Int) (μ1 : zMem) => (zIn r2) ∧ ((r2 = 0 → (Q (-3) μ1)) ∧ (¬ (r2 = 0) → (kX7_isIn d x3 0 1 μ1 (fun (r6 : Int) (μ5 : zMem) => (zIn r6) ∧ ((r6 = 0 → (Q (-3) μ5)) ∧ (¬ (r6 = 0) → (kX0_learn d x2 μ5 (fun μ9 : zMem => (zIn x3) ∧ ((x3 = 0 → (kX0_lengthOf d x1 x2 μ9 (fun (r13 : Int) (μ12 : zMem) => Q r13 μ12))) ∧ (¬ (x3 = 0) → (kX0_firstOf d x1 x2 μ9 (fun (r15 : Int) (μ14 : zMem) => Q r15 μ14)))))))))))))) : kX7_span (d + 1) x1 x2 x3 μ Q := by
  refine Cl_of rfl (Nat.le_of_ble_eq_true rfl) rfl ?_
  show Z SS none mX7_span (d + 1) 0 0 (qI Q) 0 [some (.ref 0), some (vi x1), some (vi x2), some (vi x3)] [] μ 0 0
  refine Z_iload_n (pc' := 1) dX7_span_0 rfl rfl ?_
  refine Z_iload_n (pc' := 2) dX7_span_1 rfl rfl ?_
  refine Z_callS0 (M' := mX7_isBand) (pc' := 5) (st := []) [vi x1, vi x2] dX7_span_2 rfl sX7_isBand lX7_88 rfl (Nat.le_of_ble_eq_true rfl) (Nat.le_refl 0) (Nat.le_refl 0) ?_
  refine Cl_mono P ?_
  rintro _ μ1 ⟨r2, rfl, P⟩
  show Z SS none mX7_span (d + 1) 0 0 (qI Q) 5 [some (.ref 0), some (vi x1), some (vi x2), some (vi x3)] [vi r2] μ1 0 0
  have h3 := P.1
  have P := P.2
  refine Z_if_eq (tgt := 17) (pc' := 8) dX7_span_5 (by decide) rfl h3 (fun c4 => ?_) (fun c4 => ?_)
  · have P := P.1 c4
    refine Z_bipush (pc' := 19) dX7_span_17 rfl rfl ?_
    exact Z_ireturn dX7_span_19 rfl (Nat.le_refl 0) (Nat.le_refl 0) P
  · have P := P.2 c4
    refine Z_iload_n (pc' := 9) dX7_span_8 rfl rfl ?_
    refine Z_iconst (pc' := 10) dX7_span_9 rfl ?_
    refine Z_iconst (pc' := 11) dX7_span_10 rfl ?_
    refine Z_callS0 (M' := mX7_isIn) (pc' := 14) (st := []) [vi x3, vi 0, vi 1] dX7_span_11 rfl sX7_isIn lX7_45 rfl (Nat.le_of_ble_eq_true rfl) (Nat.le_refl 0) (Nat.le_refl 0) ?_
    refine Cl_mono P ?_
    rintro _ μ5 ⟨r6, rfl, P⟩
    show Z SS none mX7_span (d + 1) 0 0 (qI Q) 14 [some (.ref 0), some (vi x1), some (vi x2), some (vi x3)] [vi r6] μ5 0 0
    have h7 := P.1
    have P := P.2
    refine Z_if_ne (tgt := 20) (pc' := 17) dX7_span_14 (by decide) rfl h7 (fun c8 => ?_) (fun c8 => ?_)
    · have P := P.2 c8
      refine Z_aload_n (pc' := 21) dX7_span_20 rfl rfl ?_
      refine Z_getR (q := 11) (pc' := 24) dX7_span_21 rfl fX7_41 rfl (Or.inl dd_0) (Or.inl rr_0_6) ?_
      refine Z_getR (q := 12) (pc' := 27) dX7_span_24 rfl fX7_91 rfl (Or.inl dd_11) (Or.inl rr_11_0) ?_
      refine Z_aload_n (pc' := 28) dX7_span_27 rfl rfl ?_
      refine Z_getR (q := 1) (pc' := 31) dX7_span_28 rfl fX7_10 rfl (Or.inl dd_0) (Or.inl rr_0_0) ?_
      refine Z_getR (q := 2) (pc' := 34) dX7_span_31 rfl fX7_53 rfl (Or.inl dd_1) (Or.inl rr_1_0) ?_
      refine Z_iload_n (pc' := 35) dX7_span_34 rfl rfl ?_
      refine Z_callV0 (M' := mX0_learn) (pc' := 38) (st := []) [.ref 2, vi x2] dX7_span_35 rfl vX0_learn lX7_95 (Or.inl dd_12) rfl (Nat.le_of_ble_eq_true rfl) (Nat.le_refl 0) (Nat.le_refl 0) ?_
      refine Cl_mono P ?_
      rintro _ μ9 ⟨rfl, P⟩
      show Z SS none mX7_span (d + 1) 0 0 (qI Q) 38 [some (.ref 0), some (vi x1), some (vi x2), some (vi x3)] [] μ9 0 0
      refine Z_iload_n (pc' := 39) dX7_span_38 rfl rfl ?_
      have h10 := P.1
      have P := P.2
      refine Z_if_ne (tgt := 57) (pc' := 42) dX7_span_39 (by decide) rfl h10 (fun c11 => ?_) (fun c11 => ?_)
      · have P := P.2 c11
        refine Z_aload_n (pc' := 58) dX7_span_57 rfl rfl ?_
        refine Z_getR (q := 11) (pc' := 61) dX7_span_58 rfl fX7_41 rfl (Or.inl dd_0) (Or.inl rr_0_6) ?_
        refine Z_getR (q := 12) (pc' := 64) dX7_span_61 rfl fX7_91 rfl (Or.inl dd_11) (Or.inl rr_11_0) ?_
        refine Z_iload_n (pc' := 65) dX7_span_64 rfl rfl ?_
        refine Z_iload_n (pc' := 66) dX7_span_65 rfl rfl ?_
        refine Z_callV0 (M' := mX0_firstOf) (pc' := 69) (st := []) [vi x1, vi x2] dX7_span_66 rfl vX0_firstOf lX7_105 (Or.inl dd_12) rfl (Nat.le_of_ble_eq_true rfl) (Nat.le_refl 0) (Nat.le_refl 0) ?_
        refine Cl_mono P ?_
        rintro _ μ14 ⟨r15, rfl, P⟩
        show Z SS none mX7_span (d + 1) 0 0 (qI Q) 69 [some (.ref 0), some (vi x1), some (vi x2), some (vi x3)] [vi r15] μ14 0 0
        exact Z_ireturn dX7_span_69 rfl (Nat.le_refl 0) (Nat.le_refl 0) P
      · have P := P.1 c11
        refine Z_aload_n (pc' := 43) dX7_span_42 rfl rfl ?_
        refine Z_getR (q := 11) (pc' := 46) dX7_span_43 rfl fX7_41 rfl (Or.inl dd_0) (Or.inl rr_0_6) ?_
        refine Z_getR (q := 12) (pc' := 49) dX7_span_46 rfl fX7_91 rfl (Or.inl dd_11) (Or.inl rr_11_0) ?_
        refine Z_iload_n (pc' := 50) dX7_span_49 rfl rfl ?_
        refine Z_iload_n (pc' := 51) dX7_span_50 rfl rfl ?_
        refine Z_callV0 (M' := mX0_lengthOf) (pc' := 54) (st := []) [vi x1, vi x2] dX7_span_51 rfl vX0_lengthOf lX7_101 (Or.inl dd_12) rfl (Nat.le_of_ble_eq_true rfl) (Nat.le_refl 0) (Nat.le_refl 0) ?_
        refine Cl_mono P ?_
        rintro _ μ12 ⟨r13, rfl, P⟩
        show Z SS none mX7_span (d + 1) 0 0 (qI Q) 54 [some (.ref 0), some (vi x1), some (vi x2), some (vi x3)] [vi r13] μ12 0 0
        refine Z_goto (tgt := 69) dX7_span_54 (by decide) ?_
        exact Z_ireturn dX7_span_69 rfl (Nat.le_refl 0) (Nat.le_refl 0) P
    · have P := P.1 c8
      refine Z_bipush (pc' := 19) dX7_span_17 rfl rfl ?_
      exact Z_ireturn dX7_span_19 rfl (Nat.le_refl 0) (Nat.le_refl 0) P
theorem bX7_addWord {d : Nat} {Q : Int → zMem → Prop} {μ : zMem} {x1 : Int} {x2 : Int} (P : kX7_isIn d x1 1 12 μ (fun (r2 : Int) (μ1 : zMem) => (zIn r2) ∧ ((r2 = 0 → (Q (-3) μ1)) ∧ (¬ (r2 = 0) → (kX7_isIn d x2 1 3 μ1 (fun (r6 : Int) (μ5 : zMem) => (zIn r6) ∧ ((r6 = 0 → (Q (-3) μ5)) ∧ (¬ (r6 = 0) → ((zIn (gI μ5 1 1)) ∧ (((gI μ5 1 1) < 14 → (kX7_remember d μ5 (fun μ11 : zMem => kX5_putWord d (gI μ11 1 1) x1 x2 0 μ11 (fun μ12 : zMem => Q ((gI (sI μ12 1 1 ((gI μ12 1 1) + 1)) 1 1) - 1) (sI μ12 1 1 ((gI μ12 1 1) + 1)))))) ∧ (¬ ((gI μ5 1 1) < 14) → (Q (-5) μ5)))))))))))) : kX7_addWord (d + 1) x1 x2 μ Q := by
  refine Cl_of rfl (Nat.le_of_ble_eq_true rfl) rfl ?_
  show Z SS none mX7_addWord (d + 1) 0 0 (qI Q) 0 [some (.ref 0), some (vi x1), some (vi x2)] [] μ 0 0
  refine Z_iload_n (pc' := 1) dX7_addWord_0 rfl rfl ?_
  refine Z_iconst (pc' := 2) dX7_addWord_1 rfl ?_
  refine Z_bipush (pc' := 4) dX7_addWord_2 rfl rfl ?_
  refine Z_callS0 (M' := mX7_isIn) (pc' := 7) (st := []) [vi x1, vi 1, vi 12] dX7_addWord_4 rfl sX7_isIn lX7_45 rfl (Nat.le_of_ble_eq_true rfl) (Nat.le_refl 0) (Nat.le_refl 0) ?_
  refine Cl_mono P ?_
  rintro _ μ1 ⟨r2, rfl, P⟩
  show Z SS none mX7_addWord (d + 1) 0 0 (qI Q) 7 [some (.ref 0), some (vi x1), some (vi x2)] [vi r2] μ1 0 0
  have h3 := P.1
  have P := P.2
  refine Z_if_eq (tgt := 19) (pc' := 10) dX7_addWord_7 (by decide) rfl h3 (fun c4 => ?_) (fun c4 => ?_)
  · have P := P.1 c4
    refine Z_bipush (pc' := 21) dX7_addWord_19 rfl rfl ?_
    exact Z_ireturn dX7_addWord_21 rfl (Nat.le_refl 0) (Nat.le_refl 0) P
  · have P := P.2 c4
    refine Z_iload_n (pc' := 11) dX7_addWord_10 rfl rfl ?_
    refine Z_iconst (pc' := 12) dX7_addWord_11 rfl ?_
    refine Z_iconst (pc' := 13) dX7_addWord_12 rfl ?_
    refine Z_callS0 (M' := mX7_isIn) (pc' := 16) (st := []) [vi x2, vi 1, vi 3] dX7_addWord_13 rfl sX7_isIn lX7_45 rfl (Nat.le_of_ble_eq_true rfl) (Nat.le_refl 0) (Nat.le_refl 0) ?_
    refine Cl_mono P ?_
    rintro _ μ5 ⟨r6, rfl, P⟩
    show Z SS none mX7_addWord (d + 1) 0 0 (qI Q) 16 [some (.ref 0), some (vi x1), some (vi x2)] [vi r6] μ5 0 0
    have h7 := P.1
    have P := P.2
    refine Z_if_ne (tgt := 22) (pc' := 19) dX7_addWord_16 (by decide) rfl h7 (fun c8 => ?_) (fun c8 => ?_)
    · have P := P.2 c8
      refine Z_aload_n (pc' := 23) dX7_addWord_22 rfl rfl ?_
      refine Z_getR (q := 1) (pc' := 26) dX7_addWord_23 rfl fX7_10 rfl (Or.inl dd_0) (Or.inl rr_0_0) ?_
      refine Z_getI' (ji := 1) (pc' := 29) dX7_addWord_26 rfl rfl fX7_108 rfl (Or.inl dd_1) ?_
      refine Z_bipush (pc' := 31) dX7_addWord_29 rfl rfl ?_
      have h9 := P.1
      have P := P.2
      refine Z_icmp_lt (tgt := 37) (pc' := 34) dX7_addWord_31 (by decide) rfl h9 (z_lit rfl) (fun c10 => ?_) (fun c10 => ?_)
      · have P := P.1 c10
        refine Z_aload_n (pc' := 38) dX7_addWord_37 rfl rfl ?_
        refine Z_callV0 (M' := mX7_remember) (pc' := 41) (st := []) [] dX7_addWord_38 rfl vX7_remember lX7_62 (Or.inl dd_0) rfl (Nat.le_of_ble_eq_true rfl) (Nat.le_refl 0) (Nat.le_refl 0) ?_
        refine Cl_mono P ?_
        rintro _ μ11 ⟨rfl, P⟩
        show Z SS none mX7_addWord (d + 1) 0 0 (qI Q) 41 [some (.ref 0), some (vi x1), some (vi x2)] [] μ11 0 0
        refine Z_aload_n (pc' := 42) dX7_addWord_41 rfl rfl ?_
        refine Z_getR (q := 1) (pc' := 45) dX7_addWord_42 rfl fX7_10 rfl (Or.inl dd_0) (Or.inl rr_0_0) ?_
        refine Z_aload_n (pc' := 46) dX7_addWord_45 rfl rfl ?_
        refine Z_getR (q := 1) (pc' := 49) dX7_addWord_46 rfl fX7_10 rfl (Or.inl dd_0) (Or.inl rr_0_0) ?_
        refine Z_getI' (ji := 1) (pc' := 52) dX7_addWord_49 rfl rfl fX7_108 rfl (Or.inl dd_1) ?_
        refine Z_iload_n (pc' := 53) dX7_addWord_52 rfl rfl ?_
        refine Z_iload_n (pc' := 54) dX7_addWord_53 rfl rfl ?_
        refine Z_iconst (pc' := 55) dX7_addWord_54 rfl ?_
        refine Z_callV0 (M' := mX5_putWord) (pc' := 58) (st := []) [vi (gI μ11 1 1), vi x1, vi x2, vi 0] dX7_addWord_55 rfl vX5_putWord lX7_111 (Or.inl dd_1) rfl (Nat.le_of_ble_eq_true rfl) (Nat.le_refl 0) (Nat.le_refl 0) ?_
        refine Cl_mono P ?_
        rintro _ μ12 ⟨rfl, P⟩
        show Z SS none mX7_addWord (d + 1) 0 0 (qI Q) 58 [some (.ref 0), some (vi x1), some (vi x2)] [] μ12 0 0
        refine Z_aload_n (pc' := 59) dX7_addWord_58 rfl rfl ?_
        refine Z_getR (q := 1) (pc' := 62) dX7_addWord_59 rfl fX7_10 rfl (Or.inl dd_0) (Or.inl rr_0_0) ?_
        refine Z_dup (pc' := 63) dX7_addWord_62 rfl rfl ?_
        refine Z_getI' (ji := 1) (pc' := 66) dX7_addWord_63 rfl rfl fX7_108 rfl (Or.inl dd_1) ?_
        refine Z_iconst (pc' := 67) dX7_addWord_66 rfl ?_
        refine Z_iadd (pc' := 68) dX7_addWord_67 rfl ?_
        refine Z_putI' (ji := 1) (pc' := 71) dX7_addWord_68 rfl rfl fX7_108 (Or.inl rfl) rfl (Or.inl dd_1) ?_
        refine Z_aload_n (pc' := 72) dX7_addWord_71 rfl rfl ?_
        refine Z_getR (q := 1) (pc' := 75) dX7_addWord_72 rfl fX7_10 rfl (Or.inl dd_0) (Or.inl rr_0_0) ?_
        refine Z_getI' (ji := 1) (pc' := 78) dX7_addWord_75 rfl rfl fX7_108 rfl (Or.inl dd_1) ?_
        refine Z_iconst (pc' := 79) dX7_addWord_78 rfl ?_
        refine Z_isub (pc' := 80) dX7_addWord_79 rfl ?_
        exact Z_ireturn dX7_addWord_80 rfl (Nat.le_refl 0) (Nat.le_refl 0) P
      · have P := P.2 c10
        refine Z_bipush (pc' := 36) dX7_addWord_34 rfl rfl ?_
        exact Z_ireturn dX7_addWord_36 rfl (Nat.le_refl 0) (Nat.le_refl 0) P
    · have P := P.1 c8
      refine Z_bipush (pc' := 21) dX7_addWord_19 rfl rfl ?_
      exact Z_ireturn dX7_addWord_21 rfl (Nat.le_refl 0) (Nat.le_refl 0) P
theorem bX7_setWord {d : Nat} {Q : Int → zMem → Prop} {μ : zMem} {x1 : Int} {x2 : Int} {x3 : Int} {x4 : Int} (P : kX7_isIn d x1 0 ((gI μ 1 1) - 1) μ (fun (r2 : Int) (μ1 : zMem) => (zIn r2) ∧ ((r2 = 0 → (Q (-2) μ1)) ∧ (¬ (r2 = 0) → (kX7_isIn d x2 1 12 μ1 (fun (r6 : Int) (μ5 : zMem) => (zIn r6) ∧ ((r6 = 0 → (Q (-3) μ5)) ∧ (¬ (r6 = 0) → (kX7_isIn d x3 1 3 μ5 (fun (r10 : Int) (μ9 : zMem) => (zIn r10) ∧ ((r10 = 0 → (Q (-3) μ9)) ∧ (¬ (r10 = 0) → (kX7_remember d μ9 (fun μ13 : zMem => kX5_partOfWord d x1 0 μ13 (fun (r15 : Int) (μ14 : zMem) => ((zIn x4)) ∧ (kX5_putWord d x1 x2 x3 (if x4 = 0 then 0 else 1) μ14 (fun μ19 : zMem => Q r15 μ19))))))))))))))))) : kX7_setWord (d + 1) x1 x2 x3 x4 μ Q := by
  refine Cl_of rfl (Nat.le_of_ble_eq_true rfl) rfl ?_
  show Z SS none mX7_setWord (d + 1) 0 0 (qI Q) 0 [some (.ref 0), some (vi x1), some (vi x2), some (vi x3), some (vi x4), none] [] μ 0 0
  refine Z_iload_n (pc' := 1) dX7_setWord_0 rfl rfl ?_
  refine Z_iconst (pc' := 2) dX7_setWord_1 rfl ?_
  refine Z_aload_n (pc' := 3) dX7_setWord_2 rfl rfl ?_
  refine Z_getR (q := 1) (pc' := 6) dX7_setWord_3 rfl fX7_10 rfl (Or.inl dd_0) (Or.inl rr_0_0) ?_
  refine Z_getI' (ji := 1) (pc' := 9) dX7_setWord_6 rfl rfl fX7_108 rfl (Or.inl dd_1) ?_
  refine Z_iconst (pc' := 10) dX7_setWord_9 rfl ?_
  refine Z_isub (pc' := 11) dX7_setWord_10 rfl ?_
  refine Z_callS0 (M' := mX7_isIn) (pc' := 14) (st := []) [vi x1, vi 0, vi ((gI μ 1 1) - 1)] dX7_setWord_11 rfl sX7_isIn lX7_45 rfl (Nat.le_of_ble_eq_true rfl) (Nat.le_refl 0) (Nat.le_refl 0) ?_
  refine Cl_mono P ?_
  rintro _ μ1 ⟨r2, rfl, P⟩
  show Z SS none mX7_setWord (d + 1) 0 0 (qI Q) 14 [some (.ref 0), some (vi x1), some (vi x2), some (vi x3), some (vi x4), none] [vi r2] μ1 0 0
  have h3 := P.1
  have P := P.2
  refine Z_if_ne (tgt := 20) (pc' := 17) dX7_setWord_14 (by decide) rfl h3 (fun c4 => ?_) (fun c4 => ?_)
  · have P := P.2 c4
    refine Z_iload_n (pc' := 21) dX7_setWord_20 rfl rfl ?_
    refine Z_iconst (pc' := 22) dX7_setWord_21 rfl ?_
    refine Z_bipush (pc' := 24) dX7_setWord_22 rfl rfl ?_
    refine Z_callS0 (M' := mX7_isIn) (pc' := 27) (st := []) [vi x2, vi 1, vi 12] dX7_setWord_24 rfl sX7_isIn lX7_45 rfl (Nat.le_of_ble_eq_true rfl) (Nat.le_refl 0) (Nat.le_refl 0) ?_
    refine Cl_mono P ?_
    rintro _ μ5 ⟨r6, rfl, P⟩
    show Z SS none mX7_setWord (d + 1) 0 0 (qI Q) 27 [some (.ref 0), some (vi x1), some (vi x2), some (vi x3), some (vi x4), none] [vi r6] μ5 0 0
    have h7 := P.1
    have P := P.2
    refine Z_if_eq (tgt := 39) (pc' := 30) dX7_setWord_27 (by decide) rfl h7 (fun c8 => ?_) (fun c8 => ?_)
    · have P := P.1 c8
      refine Z_bipush (pc' := 41) dX7_setWord_39 rfl rfl ?_
      exact Z_ireturn dX7_setWord_41 rfl (Nat.le_refl 0) (Nat.le_refl 0) P
    · have P := P.2 c8
      refine Z_iload_n (pc' := 31) dX7_setWord_30 rfl rfl ?_
      refine Z_iconst (pc' := 32) dX7_setWord_31 rfl ?_
      refine Z_iconst (pc' := 33) dX7_setWord_32 rfl ?_
      refine Z_callS0 (M' := mX7_isIn) (pc' := 36) (st := []) [vi x3, vi 1, vi 3] dX7_setWord_33 rfl sX7_isIn lX7_45 rfl (Nat.le_of_ble_eq_true rfl) (Nat.le_refl 0) (Nat.le_refl 0) ?_
      refine Cl_mono P ?_
      rintro _ μ9 ⟨r10, rfl, P⟩
      show Z SS none mX7_setWord (d + 1) 0 0 (qI Q) 36 [some (.ref 0), some (vi x1), some (vi x2), some (vi x3), some (vi x4), none] [vi r10] μ9 0 0
      have h11 := P.1
      have P := P.2
      refine Z_if_ne (tgt := 42) (pc' := 39) dX7_setWord_36 (by decide) rfl h11 (fun c12 => ?_) (fun c12 => ?_)
      · have P := P.2 c12
        refine Z_aload_n (pc' := 43) dX7_setWord_42 rfl rfl ?_
        refine Z_callV0 (M' := mX7_remember) (pc' := 46) (st := []) [] dX7_setWord_43 rfl vX7_remember lX7_62 (Or.inl dd_0) rfl (Nat.le_of_ble_eq_true rfl) (Nat.le_refl 0) (Nat.le_refl 0) ?_
        refine Cl_mono P ?_
        rintro _ μ13 ⟨rfl, P⟩
        show Z SS none mX7_setWord (d + 1) 0 0 (qI Q) 46 [some (.ref 0), some (vi x1), some (vi x2), some (vi x3), some (vi x4), none] [] μ13 0 0
        refine Z_aload_n (pc' := 47) dX7_setWord_46 rfl rfl ?_
        refine Z_getR (q := 1) (pc' := 50) dX7_setWord_47 rfl fX7_10 rfl (Or.inl dd_0) (Or.inl rr_0_0) ?_
        refine Z_iload_n (pc' := 51) dX7_setWord_50 rfl rfl ?_
        refine Z_iconst (pc' := 52) dX7_setWord_51 rfl ?_
        refine Z_callV0 (M' := mX5_partOfWord) (pc' := 55) (st := []) [vi x1, vi 0] dX7_setWord_52 rfl vX5_partOfWord lX7_115 (Or.inl dd_1) rfl (Nat.le_of_ble_eq_true rfl) (Nat.le_refl 0) (Nat.le_refl 0) ?_
        refine Cl_mono P ?_
        rintro _ μ14 ⟨r15, rfl, P⟩
        show Z SS none mX7_setWord (d + 1) 0 0 (qI Q) 55 [some (.ref 0), some (vi x1), some (vi x2), some (vi x3), some (vi x4), none] [vi r15] μ14 0 0
        refine Z_istore (pc' := 57) (lo' := [some (.ref 0), some (vi x1), some (vi x2), some (vi x3), some (vi x4), some (vi r15)]) dX7_setWord_55 rfl (by decide) rfl ?_
        refine Z_aload_n (pc' := 58) dX7_setWord_57 rfl rfl ?_
        refine Z_getR (q := 1) (pc' := 61) dX7_setWord_58 rfl fX7_10 rfl (Or.inl dd_0) (Or.inl rr_0_0) ?_
        refine Z_iload_n (pc' := 62) dX7_setWord_61 rfl rfl ?_
        refine Z_iload_n (pc' := 63) dX7_setWord_62 rfl rfl ?_
        refine Z_iload_n (pc' := 64) dX7_setWord_63 rfl rfl ?_
        refine Z_iload (pc' := 66) dX7_setWord_64 rfl rfl ?_
        have K : ∀ t18 : Int, t18 = (if x4 = 0 then 0 else 1) → Z SS none mX7_setWord (d + 1) 0 0 (qI Q) 74 [some (.ref 0), some (vi x1), some (vi x2), some (vi x3), some (vi x4), some (vi r15)] [vi t18, vi x3, vi x2, vi x1, .ref 1] μ14 0 0 := by
          rintro _ rfl
          have P := P.2
          refine Z_callV0 (M' := mX5_putWord) (pc' := 77) (st := []) [vi x1, vi x2, vi x3, vi (if x4 = 0 then 0 else 1)] dX7_setWord_74 rfl vX5_putWord lX7_111 (Or.inl dd_1) rfl (Nat.le_of_ble_eq_true rfl) (Nat.le_refl 0) (Nat.le_refl 0) ?_
          refine Cl_mono P ?_
          rintro _ μ19 ⟨rfl, P⟩
          show Z SS none mX7_setWord (d + 1) 0 0 (qI Q) 77 [some (.ref 0), some (vi x1), some (vi x2), some (vi x3), some (vi x4), some (vi r15)] [] μ19 0 0
          refine Z_iload (pc' := 79) dX7_setWord_77 rfl rfl ?_
          exact Z_ireturn dX7_setWord_79 rfl (Nat.le_refl 0) (Nat.le_refl 0) P
        have G := P.1
        have h16 := G
        refine Z_if_eq (tgt := 73) (pc' := 69) dX7_setWord_66 (by decide) rfl h16 (fun c17 => ?_) (fun c17 => ?_)
        · refine Z_iconst (pc' := 74) dX7_setWord_73 rfl ?_
          exact K _ (by rw [if_pos c17])
        · refine Z_iconst (pc' := 70) dX7_setWord_69 rfl ?_
          refine Z_goto (tgt := 74) dX7_setWord_70 (by decide) ?_
          exact K _ (by rw [if_neg c17])
      · have P := P.1 c12
        refine Z_bipush (pc' := 41) dX7_setWord_39 rfl rfl ?_
        exact Z_ireturn dX7_setWord_41 rfl (Nat.le_refl 0) (Nat.le_refl 0) P
  · have P := P.1 c4
    refine Z_bipush (pc' := 19) dX7_setWord_17 rfl rfl ?_
    exact Z_ireturn dX7_setWord_19 rfl (Nat.le_refl 0) (Nat.le_refl 0) P
theorem bX7_clearWords {d : Nat} {Q : Int → zMem → Prop} {μ : zMem}  (P : kX7_remember d μ (fun μ1 : zMem => Q (gI μ1 1 1) (sI μ1 1 1 0))) : kX7_clearWords (d + 1) μ Q := by
  refine Cl_of rfl (Nat.le_of_ble_eq_true rfl) rfl ?_
  show Z SS none mX7_clearWords (d + 1) 0 0 (qI Q) 0 [some (.ref 0), none] [] μ 0 0
  refine Z_aload_n (pc' := 1) dX7_clearWords_0 rfl rfl ?_
  refine Z_callV0 (M' := mX7_remember) (pc' := 4) (st := []) [] dX7_clearWords_1 rfl vX7_remember lX7_62 (Or.inl dd_0) rfl (Nat.le_of_ble_eq_true rfl) (Nat.le_refl 0) (Nat.le_refl 0) ?_
  refine Cl_mono P ?_
  rintro _ μ1 ⟨rfl, P⟩
  show Z SS none mX7_clearWords (d + 1) 0 0 (qI Q) 4 [some (.ref 0), none] [] μ1 0 0
  refine Z_aload_n (pc' := 5) dX7_clearWords_4 rfl rfl ?_
  refine Z_getR (q := 1) (pc' := 8) dX7_clearWords_5 rfl fX7_10 rfl (Or.inl dd_0) (Or.inl rr_0_0) ?_
  refine Z_getI' (ji := 1) (pc' := 11) dX7_clearWords_8 rfl rfl fX7_108 rfl (Or.inl dd_1) ?_
  refine Z_istore_n (pc' := 12) (lo' := [some (.ref 0), some (vi (gI μ1 1 1))]) dX7_clearWords_11 rfl (by decide) rfl ?_
  refine Z_aload_n (pc' := 13) dX7_clearWords_12 rfl rfl ?_
  refine Z_getR (q := 1) (pc' := 16) dX7_clearWords_13 rfl fX7_10 rfl (Or.inl dd_0) (Or.inl rr_0_0) ?_
  refine Z_iconst (pc' := 17) dX7_clearWords_16 rfl ?_
  refine Z_putI' (ji := 1) (pc' := 20) dX7_clearWords_17 rfl rfl fX7_108 (Or.inl rfl) rfl (Or.inl dd_1) ?_
  refine Z_iload_n (pc' := 21) dX7_clearWords_20 rfl rfl ?_
  exact Z_ireturn dX7_clearWords_21 rfl (Nat.le_refl 0) (Nat.le_refl 0) P
theorem bX7_setSizes {d : Nat} {Q : Int → zMem → Prop} {μ : zMem} {x1 : Int} {x2 : Int} {x3 : Int} {x4 : Int} (P : kX7_isIn d x1 0 4 μ (fun (r2 : Int) (μ1 : zMem) => (zIn r2) ∧ ((r2 = 0 → (Q (-3) μ1)) ∧ (¬ (r2 = 0) → (kX7_isIn d x2 1 20 μ1 (fun (r6 : Int) (μ5 : zMem) => (zIn r6) ∧ ((r6 = 0 → (Q (-3) μ5)) ∧ (¬ (r6 = 0) → (kX7_isIn d x3 1 20 μ5 (fun (r10 : Int) (μ9 : zMem) => (zIn r10) ∧ ((r10 = 0 → (Q (-3) μ9)) ∧ (¬ (r10 = 0) → (kX7_isIn d x4 1 20 μ9 (fun (r14 : Int) (μ13 : zMem) => (zIn r14) ∧ ((r14 = 0 → (Q (-3) μ13)) ∧ (¬ (r14 = 0) → (kX7_remember d μ13 (fun μ17 : zMem => Q (gI μ17 6 0) (sI (sI (sI (sI μ17 6 0 x1) 6 1 x2) 6 2 x3) 6 3 x4))))))))))))))))))) : kX7_setSizes (d + 1) x1 x2 x3 x4 μ Q := by
  refine Cl_of rfl (Nat.le_of_ble_eq_true rfl) rfl ?_
  show Z SS none mX7_setSizes (d + 1) 0 0 (qI Q) 0 [some (.ref 0), some (vi x1), some (vi x2), some (vi x3), some (vi x4), none] [] μ 0 0
  refine Z_iload_n (pc' := 1) dX7_setSizes_0 rfl rfl ?_
  refine Z_iconst (pc' := 2) dX7_setSizes_1 rfl ?_
  refine Z_iconst (pc' := 3) dX7_setSizes_2 rfl ?_
  refine Z_callS0 (M' := mX7_isIn) (pc' := 6) (st := []) [vi x1, vi 0, vi 4] dX7_setSizes_3 rfl sX7_isIn lX7_45 rfl (Nat.le_of_ble_eq_true rfl) (Nat.le_refl 0) (Nat.le_refl 0) ?_
  refine Cl_mono P ?_
  rintro _ μ1 ⟨r2, rfl, P⟩
  show Z SS none mX7_setSizes (d + 1) 0 0 (qI Q) 6 [some (.ref 0), some (vi x1), some (vi x2), some (vi x3), some (vi x4), none] [vi r2] μ1 0 0
  have h3 := P.1
  have P := P.2
  refine Z_if_eq (tgt := 40) (pc' := 9) dX7_setSizes_6 (by decide) rfl h3 (fun c4 => ?_) (fun c4 => ?_)
  · have P := P.1 c4
    refine Z_bipush (pc' := 42) dX7_setSizes_40 rfl rfl ?_
    exact Z_ireturn dX7_setSizes_42 rfl (Nat.le_refl 0) (Nat.le_refl 0) P
  · have P := P.2 c4
    refine Z_iload_n (pc' := 10) dX7_setSizes_9 rfl rfl ?_
    refine Z_iconst (pc' := 11) dX7_setSizes_10 rfl ?_
    refine Z_bipush (pc' := 13) dX7_setSizes_11 rfl rfl ?_
    refine Z_callS0 (M' := mX7_isIn) (pc' := 16) (st := []) [vi x2, vi 1, vi 20] dX7_setSizes_13 rfl sX7_isIn lX7_45 rfl (Nat.le_of_ble_eq_true rfl) (Nat.le_refl 0) (Nat.le_refl 0) ?_
    refine Cl_mono P ?_
    rintro _ μ5 ⟨r6, rfl, P⟩
    show Z SS none mX7_setSizes (d + 1) 0 0 (qI Q) 16 [some (.ref 0), some (vi x1), some (vi x2), some (vi x3), some (vi x4), none] [vi r6] μ5 0 0
    have h7 := P.1
    have P := P.2
    refine Z_if_eq (tgt := 40) (pc' := 19) dX7_setSizes_16 (by decide) rfl h7 (fun c8 => ?_) (fun c8 => ?_)
    · have P := P.1 c8
      refine Z_bipush (pc' := 42) dX7_setSizes_40 rfl rfl ?_
      exact Z_ireturn dX7_setSizes_42 rfl (Nat.le_refl 0) (Nat.le_refl 0) P
    · have P := P.2 c8
      refine Z_iload_n (pc' := 20) dX7_setSizes_19 rfl rfl ?_
      refine Z_iconst (pc' := 21) dX7_setSizes_20 rfl ?_
      refine Z_bipush (pc' := 23) dX7_setSizes_21 rfl rfl ?_
      refine Z_callS0 (M' := mX7_isIn) (pc' := 26) (st := []) [vi x3, vi 1, vi 20] dX7_setSizes_23 rfl sX7_isIn lX7_45 rfl (Nat.le_of_ble_eq_true rfl) (Nat.le_refl 0) (Nat.le_refl 0) ?_
      refine Cl_mono P ?_
      rintro _ μ9 ⟨r10, rfl, P⟩
      show Z SS none mX7_setSizes (d + 1) 0 0 (qI Q) 26 [some (.ref 0), some (vi x1), some (vi x2), some (vi x3), some (vi x4), none] [vi r10] μ9 0 0
      have h11 := P.1
      have P := P.2
      refine Z_if_eq (tgt := 40) (pc' := 29) dX7_setSizes_26 (by decide) rfl h11 (fun c12 => ?_) (fun c12 => ?_)
      · have P := P.1 c12
        refine Z_bipush (pc' := 42) dX7_setSizes_40 rfl rfl ?_
        exact Z_ireturn dX7_setSizes_42 rfl (Nat.le_refl 0) (Nat.le_refl 0) P
      · have P := P.2 c12
        refine Z_iload (pc' := 31) dX7_setSizes_29 rfl rfl ?_
        refine Z_iconst (pc' := 32) dX7_setSizes_31 rfl ?_
        refine Z_bipush (pc' := 34) dX7_setSizes_32 rfl rfl ?_
        refine Z_callS0 (M' := mX7_isIn) (pc' := 37) (st := []) [vi x4, vi 1, vi 20] dX7_setSizes_34 rfl sX7_isIn lX7_45 rfl (Nat.le_of_ble_eq_true rfl) (Nat.le_refl 0) (Nat.le_refl 0) ?_
        refine Cl_mono P ?_
        rintro _ μ13 ⟨r14, rfl, P⟩
        show Z SS none mX7_setSizes (d + 1) 0 0 (qI Q) 37 [some (.ref 0), some (vi x1), some (vi x2), some (vi x3), some (vi x4), none] [vi r14] μ13 0 0
        have h15 := P.1
        have P := P.2
        refine Z_if_ne (tgt := 43) (pc' := 40) dX7_setSizes_37 (by decide) rfl h15 (fun c16 => ?_) (fun c16 => ?_)
        · have P := P.2 c16
          refine Z_aload_n (pc' := 44) dX7_setSizes_43 rfl rfl ?_
          refine Z_callV0 (M' := mX7_remember) (pc' := 47) (st := []) [] dX7_setSizes_44 rfl vX7_remember lX7_62 (Or.inl dd_0) rfl (Nat.le_of_ble_eq_true rfl) (Nat.le_refl 0) (Nat.le_refl 0) ?_
          refine Cl_mono P ?_
          rintro _ μ17 ⟨rfl, P⟩
          show Z SS none mX7_setSizes (d + 1) 0 0 (qI Q) 47 [some (.ref 0), some (vi x1), some (vi x2), some (vi x3), some (vi x4), none] [] μ17 0 0
          refine Z_aload_n (pc' := 48) dX7_setSizes_47 rfl rfl ?_
          refine Z_getR (q := 1) (pc' := 51) dX7_setSizes_48 rfl fX7_10 rfl (Or.inl dd_0) (Or.inl rr_0_0) ?_
          refine Z_getR (q := 6) (pc' := 54) dX7_setSizes_51 rfl fX7_118 rfl (Or.inl dd_1) (Or.inl rr_1_3) ?_
          refine Z_iconst (pc' := 55) dX7_setSizes_54 rfl ?_
          refine Z_iaload (pc' := 56) dX7_setSizes_55 rfl (Or.inl dd_6) (Nat.le_of_ble_eq_true rfl) (by decide) (by decide) ?_
          refine Z_istore (pc' := 58) (lo' := [some (.ref 0), some (vi x1), some (vi x2), some (vi x3), some (vi x4), some (vi (gI μ17 6 0))]) dX7_setSizes_56 rfl (by decide) rfl ?_
          refine Z_aload_n (pc' := 59) dX7_setSizes_58 rfl rfl ?_
          refine Z_getR (q := 1) (pc' := 62) dX7_setSizes_59 rfl fX7_10 rfl (Or.inl dd_0) (Or.inl rr_0_0) ?_
          refine Z_getR (q := 6) (pc' := 65) dX7_setSizes_62 rfl fX7_118 rfl (Or.inl dd_1) (Or.inl rr_1_3) ?_
          refine Z_iconst (pc' := 66) dX7_setSizes_65 rfl ?_
          refine Z_iload_n (pc' := 67) dX7_setSizes_66 rfl rfl ?_
          refine Z_iastore (pc' := 68) dX7_setSizes_67 rfl (Or.inl dd_6) (Nat.le_of_ble_eq_true rfl) (by decide) (by decide) ?_
          refine Z_aload_n (pc' := 69) dX7_setSizes_68 rfl rfl ?_
          refine Z_getR (q := 1) (pc' := 72) dX7_setSizes_69 rfl fX7_10 rfl (Or.inl dd_0) (Or.inl rr_0_0) ?_
          refine Z_getR (q := 6) (pc' := 75) dX7_setSizes_72 rfl fX7_118 rfl (Or.inl dd_1) (Or.inl rr_1_3) ?_
          refine Z_iconst (pc' := 76) dX7_setSizes_75 rfl ?_
          refine Z_iload_n (pc' := 77) dX7_setSizes_76 rfl rfl ?_
          refine Z_iastore (pc' := 78) dX7_setSizes_77 rfl (Or.inl dd_6) (Nat.le_of_ble_eq_true rfl) (by decide) (by decide) ?_
          refine Z_aload_n (pc' := 79) dX7_setSizes_78 rfl rfl ?_
          refine Z_getR (q := 1) (pc' := 82) dX7_setSizes_79 rfl fX7_10 rfl (Or.inl dd_0) (Or.inl rr_0_0) ?_
          refine Z_getR (q := 6) (pc' := 85) dX7_setSizes_82 rfl fX7_118 rfl (Or.inl dd_1) (Or.inl rr_1_3) ?_
          refine Z_iconst (pc' := 86) dX7_setSizes_85 rfl ?_
          refine Z_iload_n (pc' := 87) dX7_setSizes_86 rfl rfl ?_
          refine Z_iastore (pc' := 88) dX7_setSizes_87 rfl (Or.inl dd_6) (Nat.le_of_ble_eq_true rfl) (by decide) (by decide) ?_
          refine Z_aload_n (pc' := 89) dX7_setSizes_88 rfl rfl ?_
          refine Z_getR (q := 1) (pc' := 92) dX7_setSizes_89 rfl fX7_10 rfl (Or.inl dd_0) (Or.inl rr_0_0) ?_
          refine Z_getR (q := 6) (pc' := 95) dX7_setSizes_92 rfl fX7_118 rfl (Or.inl dd_1) (Or.inl rr_1_3) ?_
          refine Z_iconst (pc' := 96) dX7_setSizes_95 rfl ?_
          refine Z_iload (pc' := 98) dX7_setSizes_96 rfl rfl ?_
          refine Z_iastore (pc' := 99) dX7_setSizes_98 rfl (Or.inl dd_6) (Nat.le_of_ble_eq_true rfl) (by decide) (by decide) ?_
          refine Z_iload (pc' := 101) dX7_setSizes_99 rfl rfl ?_
          exact Z_ireturn dX7_setSizes_101 rfl (Nat.le_refl 0) (Nat.le_refl 0) P
        · have P := P.1 c16
          refine Z_bipush (pc' := 42) dX7_setSizes_40 rfl rfl ?_
          exact Z_ireturn dX7_setSizes_42 rfl (Nat.le_refl 0) (Nat.le_refl 0) P
theorem bX7_setLines {d : Nat} {Q : Int → zMem → Prop} {μ : zMem} {x1 : Int} {x2 : Int} {x3 : Int} {x4 : Int} (P : kX7_isIn d x1 0 35 μ (fun (r2 : Int) (μ1 : zMem) => (zIn r2) ∧ ((r2 = 0 → (Q (-3) μ1)) ∧ (¬ (r2 = 0) → (kX7_isIn d x2 0 5 μ1 (fun (r6 : Int) (μ5 : zMem) => (zIn r6) ∧ ((r6 = 0 → (Q (-3) μ5)) ∧ (¬ (r6 = 0) → (kX7_isIn d x3 0 2 μ5 (fun (r10 : Int) (μ9 : zMem) => (zIn r10) ∧ ((r10 = 0 → (Q (-3) μ9)) ∧ (¬ (r10 = 0) → (kX7_isIn d x4 1 9 μ9 (fun (r14 : Int) (μ13 : zMem) => (zIn r14) ∧ ((r14 = 0 → (Q (-3) μ13)) ∧ (¬ (r14 = 0) → (kX7_remember d μ13 (fun μ17 : zMem => Q (gI μ17 6 4) (sI (sI (sI (sI μ17 6 4 x1) 6 5 x2) 6 6 x3) 6 7 x4))))))))))))))))))) : kX7_setLines (d + 1) x1 x2 x3 x4 μ Q := by
  refine Cl_of rfl (Nat.le_of_ble_eq_true rfl) rfl ?_
  show Z SS none mX7_setLines (d + 1) 0 0 (qI Q) 0 [some (.ref 0), some (vi x1), some (vi x2), some (vi x3), some (vi x4), none] [] μ 0 0
  refine Z_iload_n (pc' := 1) dX7_setLines_0 rfl rfl ?_
  refine Z_iconst (pc' := 2) dX7_setLines_1 rfl ?_
  refine Z_bipush (pc' := 4) dX7_setLines_2 rfl rfl ?_
  refine Z_callS0 (M' := mX7_isIn) (pc' := 7) (st := []) [vi x1, vi 0, vi 35] dX7_setLines_4 rfl sX7_isIn lX7_45 rfl (Nat.le_of_ble_eq_true rfl) (Nat.le_refl 0) (Nat.le_refl 0) ?_
  refine Cl_mono P ?_
  rintro _ μ1 ⟨r2, rfl, P⟩
  show Z SS none mX7_setLines (d + 1) 0 0 (qI Q) 7 [some (.ref 0), some (vi x1), some (vi x2), some (vi x3), some (vi x4), none] [vi r2] μ1 0 0
  have h3 := P.1
  have P := P.2
  refine Z_if_eq (tgt := 39) (pc' := 10) dX7_setLines_7 (by decide) rfl h3 (fun c4 => ?_) (fun c4 => ?_)
  · have P := P.1 c4
    refine Z_bipush (pc' := 41) dX7_setLines_39 rfl rfl ?_
    exact Z_ireturn dX7_setLines_41 rfl (Nat.le_refl 0) (Nat.le_refl 0) P
  · have P := P.2 c4
    refine Z_iload_n (pc' := 11) dX7_setLines_10 rfl rfl ?_
    refine Z_iconst (pc' := 12) dX7_setLines_11 rfl ?_
    refine Z_iconst (pc' := 13) dX7_setLines_12 rfl ?_
    refine Z_callS0 (M' := mX7_isIn) (pc' := 16) (st := []) [vi x2, vi 0, vi 5] dX7_setLines_13 rfl sX7_isIn lX7_45 rfl (Nat.le_of_ble_eq_true rfl) (Nat.le_refl 0) (Nat.le_refl 0) ?_
    refine Cl_mono P ?_
    rintro _ μ5 ⟨r6, rfl, P⟩
    show Z SS none mX7_setLines (d + 1) 0 0 (qI Q) 16 [some (.ref 0), some (vi x1), some (vi x2), some (vi x3), some (vi x4), none] [vi r6] μ5 0 0
    have h7 := P.1
    have P := P.2
    refine Z_if_eq (tgt := 39) (pc' := 19) dX7_setLines_16 (by decide) rfl h7 (fun c8 => ?_) (fun c8 => ?_)
    · have P := P.1 c8
      refine Z_bipush (pc' := 41) dX7_setLines_39 rfl rfl ?_
      exact Z_ireturn dX7_setLines_41 rfl (Nat.le_refl 0) (Nat.le_refl 0) P
    · have P := P.2 c8
      refine Z_iload_n (pc' := 20) dX7_setLines_19 rfl rfl ?_
      refine Z_iconst (pc' := 21) dX7_setLines_20 rfl ?_
      refine Z_iconst (pc' := 22) dX7_setLines_21 rfl ?_
      refine Z_callS0 (M' := mX7_isIn) (pc' := 25) (st := []) [vi x3, vi 0, vi 2] dX7_setLines_22 rfl sX7_isIn lX7_45 rfl (Nat.le_of_ble_eq_true rfl) (Nat.le_refl 0) (Nat.le_refl 0) ?_
      refine Cl_mono P ?_
      rintro _ μ9 ⟨r10, rfl, P⟩
      show Z SS none mX7_setLines (d + 1) 0 0 (qI Q) 25 [some (.ref 0), some (vi x1), some (vi x2), some (vi x3), some (vi x4), none] [vi r10] μ9 0 0
      have h11 := P.1
      have P := P.2
      refine Z_if_eq (tgt := 39) (pc' := 28) dX7_setLines_25 (by decide) rfl h11 (fun c12 => ?_) (fun c12 => ?_)
      · have P := P.1 c12
        refine Z_bipush (pc' := 41) dX7_setLines_39 rfl rfl ?_
        exact Z_ireturn dX7_setLines_41 rfl (Nat.le_refl 0) (Nat.le_refl 0) P
      · have P := P.2 c12
        refine Z_iload (pc' := 30) dX7_setLines_28 rfl rfl ?_
        refine Z_iconst (pc' := 31) dX7_setLines_30 rfl ?_
        refine Z_bipush (pc' := 33) dX7_setLines_31 rfl rfl ?_
        refine Z_callS0 (M' := mX7_isIn) (pc' := 36) (st := []) [vi x4, vi 1, vi 9] dX7_setLines_33 rfl sX7_isIn lX7_45 rfl (Nat.le_of_ble_eq_true rfl) (Nat.le_refl 0) (Nat.le_refl 0) ?_
        refine Cl_mono P ?_
        rintro _ μ13 ⟨r14, rfl, P⟩
        show Z SS none mX7_setLines (d + 1) 0 0 (qI Q) 36 [some (.ref 0), some (vi x1), some (vi x2), some (vi x3), some (vi x4), none] [vi r14] μ13 0 0
        have h15 := P.1
        have P := P.2
        refine Z_if_ne (tgt := 42) (pc' := 39) dX7_setLines_36 (by decide) rfl h15 (fun c16 => ?_) (fun c16 => ?_)
        · have P := P.2 c16
          refine Z_aload_n (pc' := 43) dX7_setLines_42 rfl rfl ?_
          refine Z_callV0 (M' := mX7_remember) (pc' := 46) (st := []) [] dX7_setLines_43 rfl vX7_remember lX7_62 (Or.inl dd_0) rfl (Nat.le_of_ble_eq_true rfl) (Nat.le_refl 0) (Nat.le_refl 0) ?_
          refine Cl_mono P ?_
          rintro _ μ17 ⟨rfl, P⟩
          show Z SS none mX7_setLines (d + 1) 0 0 (qI Q) 46 [some (.ref 0), some (vi x1), some (vi x2), some (vi x3), some (vi x4), none] [] μ17 0 0
          refine Z_aload_n (pc' := 47) dX7_setLines_46 rfl rfl ?_
          refine Z_getR (q := 1) (pc' := 50) dX7_setLines_47 rfl fX7_10 rfl (Or.inl dd_0) (Or.inl rr_0_0) ?_
          refine Z_getR (q := 6) (pc' := 53) dX7_setLines_50 rfl fX7_118 rfl (Or.inl dd_1) (Or.inl rr_1_3) ?_
          refine Z_iconst (pc' := 54) dX7_setLines_53 rfl ?_
          refine Z_iaload (pc' := 55) dX7_setLines_54 rfl (Or.inl dd_6) (Nat.le_of_ble_eq_true rfl) (by decide) (by decide) ?_
          refine Z_istore (pc' := 57) (lo' := [some (.ref 0), some (vi x1), some (vi x2), some (vi x3), some (vi x4), some (vi (gI μ17 6 4))]) dX7_setLines_55 rfl (by decide) rfl ?_
          refine Z_aload_n (pc' := 58) dX7_setLines_57 rfl rfl ?_
          refine Z_getR (q := 1) (pc' := 61) dX7_setLines_58 rfl fX7_10 rfl (Or.inl dd_0) (Or.inl rr_0_0) ?_
          refine Z_getR (q := 6) (pc' := 64) dX7_setLines_61 rfl fX7_118 rfl (Or.inl dd_1) (Or.inl rr_1_3) ?_
          refine Z_iconst (pc' := 65) dX7_setLines_64 rfl ?_
          refine Z_iload_n (pc' := 66) dX7_setLines_65 rfl rfl ?_
          refine Z_iastore (pc' := 67) dX7_setLines_66 rfl (Or.inl dd_6) (Nat.le_of_ble_eq_true rfl) (by decide) (by decide) ?_
          refine Z_aload_n (pc' := 68) dX7_setLines_67 rfl rfl ?_
          refine Z_getR (q := 1) (pc' := 71) dX7_setLines_68 rfl fX7_10 rfl (Or.inl dd_0) (Or.inl rr_0_0) ?_
          refine Z_getR (q := 6) (pc' := 74) dX7_setLines_71 rfl fX7_118 rfl (Or.inl dd_1) (Or.inl rr_1_3) ?_
          refine Z_iconst (pc' := 75) dX7_setLines_74 rfl ?_
          refine Z_iload_n (pc' := 76) dX7_setLines_75 rfl rfl ?_
          refine Z_iastore (pc' := 77) dX7_setLines_76 rfl (Or.inl dd_6) (Nat.le_of_ble_eq_true rfl) (by decide) (by decide) ?_
          refine Z_aload_n (pc' := 78) dX7_setLines_77 rfl rfl ?_
          refine Z_getR (q := 1) (pc' := 81) dX7_setLines_78 rfl fX7_10 rfl (Or.inl dd_0) (Or.inl rr_0_0) ?_
          refine Z_getR (q := 6) (pc' := 84) dX7_setLines_81 rfl fX7_118 rfl (Or.inl dd_1) (Or.inl rr_1_3) ?_
          refine Z_bipush (pc' := 86) dX7_setLines_84 rfl rfl ?_
          refine Z_iload_n (pc' := 87) dX7_setLines_86 rfl rfl ?_
          refine Z_iastore (pc' := 88) dX7_setLines_87 rfl (Or.inl dd_6) (Nat.le_of_ble_eq_true rfl) (by decide) (by decide) ?_
          refine Z_aload_n (pc' := 89) dX7_setLines_88 rfl rfl ?_
          refine Z_getR (q := 1) (pc' := 92) dX7_setLines_89 rfl fX7_10 rfl (Or.inl dd_0) (Or.inl rr_0_0) ?_
          refine Z_getR (q := 6) (pc' := 95) dX7_setLines_92 rfl fX7_118 rfl (Or.inl dd_1) (Or.inl rr_1_3) ?_
          refine Z_bipush (pc' := 97) dX7_setLines_95 rfl rfl ?_
          refine Z_iload (pc' := 99) dX7_setLines_97 rfl rfl ?_
          refine Z_iastore (pc' := 100) dX7_setLines_99 rfl (Or.inl dd_6) (Nat.le_of_ble_eq_true rfl) (by decide) (by decide) ?_
          refine Z_iload (pc' := 102) dX7_setLines_100 rfl rfl ?_
          exact Z_ireturn dX7_setLines_102 rfl (Nat.le_refl 0) (Nat.le_refl 0) P
        · have P := P.1 c16
          refine Z_bipush (pc' := 41) dX7_setLines_39 rfl rfl ?_
          exact Z_ireturn dX7_setLines_41 rfl (Nat.le_refl 0) (Nat.le_refl 0) P
theorem bX7_count {d : Nat} {Q : Int → zMem → Prop} {μ : zMem} {x1 : Int} (P : kX7_isIn d x1 2 9 μ (fun (r2 : Int) (μ1 : zMem) => (zIn r2) ∧ ((r2 = 0 → ((zIn x1) ∧ ((x1 = 0 → (Q (gI μ1 2 0) μ1)) ∧ (¬ (x1 = 0) → ((x1 = 1 → (Q (gI μ1 1 1) μ1)) ∧ (¬ (x1 = 1) → ((x1 = 10 → (kX1_freeCells d μ1 (fun (r10 : Int) (μ9 : zMem) => Q r10 μ9))) ∧ (¬ (x1 = 10) → ((x1 = 11 → ((gR μ1 1 4 = none → (Q 0 μ1)) ∧ (∀ q12 : Nat, gR μ1 1 4 = some q12 → (Q 1 μ1)))) ∧ (¬ (x1 = 11) → (Q (-3) μ1))))))))))) ∧ (¬ (r2 = 0) → ((0 ≤ (x1 - 2)) ∧ (((x1 - 2) < 8) ∧ (Q (gI μ1 6 (x1 - 2)) μ1))))))) : kX7_count (d + 1) x1 μ Q := by
  refine Cl_of rfl (Nat.le_of_ble_eq_true rfl) rfl ?_
  show Z SS none mX7_count (d + 1) 0 0 (qI Q) 0 [some (.ref 0), some (vi x1)] [] μ 0 0
  refine Z_iload_n (pc' := 1) dX7_count_0 rfl rfl ?_
  refine Z_iconst (pc' := 2) dX7_count_1 rfl ?_
  refine Z_bipush (pc' := 4) dX7_count_2 rfl rfl ?_
  refine Z_callS0 (M' := mX7_isIn) (pc' := 7) (st := []) [vi x1, vi 2, vi 9] dX7_count_4 rfl sX7_isIn lX7_45 rfl (Nat.le_of_ble_eq_true rfl) (Nat.le_refl 0) (Nat.le_refl 0) ?_
  refine Cl_mono P ?_
  rintro _ μ1 ⟨r2, rfl, P⟩
  show Z SS none mX7_count (d + 1) 0 0 (qI Q) 7 [some (.ref 0), some (vi x1)] [vi r2] μ1 0 0
  have h3 := P.1
  have P := P.2
  refine Z_if_eq (tgt := 22) (pc' := 10) dX7_count_7 (by decide) rfl h3 (fun c4 => ?_) (fun c4 => ?_)
  · have P := P.1 c4
    refine Z_iload_n (pc' := 23) dX7_count_22 rfl rfl ?_
    have h5 := P.1
    have P := P.2
    by_cases c6 : x1 = 0
    · have P := P.1 c6
      refine Z_lookup (tgt := 64) dX7_count_23 h5 (by decide) (by rw [c6] <;> rfl) (by decide) ?_
      refine Z_aload_n (pc' := 65) dX7_count_64 rfl rfl ?_
      refine Z_getR (q := 1) (pc' := 68) dX7_count_65 rfl fX7_10 rfl (Or.inl dd_0) (Or.inl rr_0_0) ?_
      refine Z_getR (q := 2) (pc' := 71) dX7_count_68 rfl fX7_53 rfl (Or.inl dd_1) (Or.inl rr_1_0) ?_
      refine Z_getI' (ji := 0) (pc' := 74) dX7_count_71 rfl rfl fX7_57 rfl (Or.inl dd_2) ?_
      exact Z_ireturn dX7_count_74 rfl (Nat.le_refl 0) (Nat.le_refl 0) P
    · have P := P.2 c6
      by_cases c7 : x1 = 1
      · have P := P.1 c7
        refine Z_lookup (tgt := 75) dX7_count_23 h5 (by decide) (by rw [c7] <;> rfl) (by decide) ?_
        refine Z_aload_n (pc' := 76) dX7_count_75 rfl rfl ?_
        refine Z_getR (q := 1) (pc' := 79) dX7_count_76 rfl fX7_10 rfl (Or.inl dd_0) (Or.inl rr_0_0) ?_
        refine Z_getI' (ji := 1) (pc' := 82) dX7_count_79 rfl rfl fX7_108 rfl (Or.inl dd_1) ?_
        exact Z_ireturn dX7_count_82 rfl (Nat.le_refl 0) (Nat.le_refl 0) P
      · have P := P.2 c7
        by_cases c8 : x1 = 10
        · have P := P.1 c8
          refine Z_lookup (tgt := 83) dX7_count_23 h5 (by decide) (by rw [c8] <;> rfl) (by decide) ?_
          refine Z_aload_n (pc' := 84) dX7_count_83 rfl rfl ?_
          refine Z_getR (q := 1) (pc' := 87) dX7_count_84 rfl fX7_10 rfl (Or.inl dd_0) (Or.inl rr_0_0) ?_
          refine Z_getR (q := 2) (pc' := 90) dX7_count_87 rfl fX7_53 rfl (Or.inl dd_1) (Or.inl rr_1_0) ?_
          refine Z_callV0 (M' := mX1_freeCells) (pc' := 93) (st := []) [] dX7_count_90 rfl vX1_freeCells lX7_76 (Or.inl dd_2) rfl (Nat.le_of_ble_eq_true rfl) (Nat.le_refl 0) (Nat.le_refl 0) ?_
          refine Cl_mono P ?_
          rintro _ μ9 ⟨r10, rfl, P⟩
          show Z SS none mX7_count (d + 1) 0 0 (qI Q) 93 [some (.ref 0), some (vi x1)] [vi r10] μ9 0 0
          exact Z_ireturn dX7_count_93 rfl (Nat.le_refl 0) (Nat.le_refl 0) P
        · have P := P.2 c8
          by_cases c11 : x1 = 11
          · have P := P.1 c11
            refine Z_lookup (tgt := 94) dX7_count_23 h5 (by decide) (by rw [c11] <;> rfl) (by decide) ?_
            refine Z_aload_n (pc' := 95) dX7_count_94 rfl rfl ?_
            refine Z_getR (q := 1) (pc' := 98) dX7_count_95 rfl fX7_10 rfl (Or.inl dd_0) (Or.inl rr_0_0) ?_
            refine Z_getO' (ji := 4) (pc' := 101) dX7_count_98 rfl rfl fX7_121 rfl (Or.inl dd_1) ?_
            refine Z_ifnull (tgt := 108) (pc' := 104) dX7_count_101 (by decide) rfl (fun c13 => ?_) (fun q12 c13 => ?_)
            · have P := P.1 c13
              refine Z_iconst (pc' := 109) dX7_count_108 rfl ?_
              exact Z_ireturn dX7_count_109 rfl (Nat.le_refl 0) (Nat.le_refl 0) P
            · have P := P.2 q12 c13
              refine Z_iconst (pc' := 105) dX7_count_104 rfl ?_
              refine Z_goto (tgt := 109) dX7_count_105 (by decide) ?_
              exact Z_ireturn dX7_count_109 rfl (Nat.le_refl 0) (Nat.le_refl 0) P
          · have P := P.2 c11
            refine Z_lookup (tgt := 110) (off := 87) dX7_count_23 h5 (by decide) (by simp [Op.lookupswitch.offset, z_ns c6, z_ns c7, z_ns c8, z_ns c11]) (by decide) ?_
            refine Z_bipush (pc' := 112) dX7_count_110 rfl rfl ?_
            exact Z_ireturn dX7_count_112 rfl (Nat.le_refl 0) (Nat.le_refl 0) P
  · have P := P.2 c4
    refine Z_aload_n (pc' := 11) dX7_count_10 rfl rfl ?_
    refine Z_getR (q := 1) (pc' := 14) dX7_count_11 rfl fX7_10 rfl (Or.inl dd_0) (Or.inl rr_0_0) ?_
    refine Z_getR (q := 6) (pc' := 17) dX7_count_14 rfl fX7_118 rfl (Or.inl dd_1) (Or.inl rr_1_3) ?_
    refine Z_iload_n (pc' := 18) dX7_count_17 rfl rfl ?_
    refine Z_iconst (pc' := 19) dX7_count_18 rfl ?_
    refine Z_isub (pc' := 20) dX7_count_19 rfl ?_
    have h14 := P.1
    have P := P.2
    have h15 := P.1
    have P := P.2
    refine Z_iaload (pc' := 21) dX7_count_20 rfl (Or.inl dd_6) (Nat.le_of_ble_eq_true rfl) h14 h15 ?_
    exact Z_ireturn dX7_count_21 rfl (Nat.le_refl 0) (Nat.le_refl 0) P
theorem bX7_word {d : Nat} {Q : Int → zMem → Prop} {μ : zMem} {x1 : Int} {x2 : Int} (P : kX7_isIn d x1 0 ((gI μ 1 1) - 1) μ (fun (r2 : Int) (μ1 : zMem) => (zIn r2) ∧ ((r2 = 0 → (Q (-2) μ1)) ∧ (¬ (r2 = 0) → (kX7_isIn d x2 0 2 μ1 (fun (r6 : Int) (μ5 : zMem) => (zIn r6) ∧ ((r6 = 0 → (Q (-3) μ5)) ∧ (¬ (r6 = 0) → (kX5_partOfWord d x1 x2 μ5 (fun (r10 : Int) (μ9 : zMem) => Q r10 μ9)))))))))) : kX7_word (d + 1) x1 x2 μ Q := by
  refine Cl_of rfl (Nat.le_of_ble_eq_true rfl) rfl ?_
  show Z SS none mX7_word (d + 1) 0 0 (qI Q) 0 [some (.ref 0), some (vi x1), some (vi x2)] [] μ 0 0
  refine Z_iload_n (pc' := 1) dX7_word_0 rfl rfl ?_
  refine Z_iconst (pc' := 2) dX7_word_1 rfl ?_
  refine Z_aload_n (pc' := 3) dX7_word_2 rfl rfl ?_
  refine Z_getR (q := 1) (pc' := 6) dX7_word_3 rfl fX7_10 rfl (Or.inl dd_0) (Or.inl rr_0_0) ?_
  refine Z_getI' (ji := 1) (pc' := 9) dX7_word_6 rfl rfl fX7_108 rfl (Or.inl dd_1) ?_
  refine Z_iconst (pc' := 10) dX7_word_9 rfl ?_
  refine Z_isub (pc' := 11) dX7_word_10 rfl ?_
  refine Z_callS0 (M' := mX7_isIn) (pc' := 14) (st := []) [vi x1, vi 0, vi ((gI μ 1 1) - 1)] dX7_word_11 rfl sX7_isIn lX7_45 rfl (Nat.le_of_ble_eq_true rfl) (Nat.le_refl 0) (Nat.le_refl 0) ?_
  refine Cl_mono P ?_
  rintro _ μ1 ⟨r2, rfl, P⟩
  show Z SS none mX7_word (d + 1) 0 0 (qI Q) 14 [some (.ref 0), some (vi x1), some (vi x2)] [vi r2] μ1 0 0
  have h3 := P.1
  have P := P.2
  refine Z_if_ne (tgt := 20) (pc' := 17) dX7_word_14 (by decide) rfl h3 (fun c4 => ?_) (fun c4 => ?_)
  · have P := P.2 c4
    refine Z_iload_n (pc' := 21) dX7_word_20 rfl rfl ?_
    refine Z_iconst (pc' := 22) dX7_word_21 rfl ?_
    refine Z_iconst (pc' := 23) dX7_word_22 rfl ?_
    refine Z_callS0 (M' := mX7_isIn) (pc' := 26) (st := []) [vi x2, vi 0, vi 2] dX7_word_23 rfl sX7_isIn lX7_45 rfl (Nat.le_of_ble_eq_true rfl) (Nat.le_refl 0) (Nat.le_refl 0) ?_
    refine Cl_mono P ?_
    rintro _ μ5 ⟨r6, rfl, P⟩
    show Z SS none mX7_word (d + 1) 0 0 (qI Q) 26 [some (.ref 0), some (vi x1), some (vi x2)] [vi r6] μ5 0 0
    have h7 := P.1
    have P := P.2
    refine Z_if_ne (tgt := 32) (pc' := 29) dX7_word_26 (by decide) rfl h7 (fun c8 => ?_) (fun c8 => ?_)
    · have P := P.2 c8
      refine Z_aload_n (pc' := 33) dX7_word_32 rfl rfl ?_
      refine Z_getR (q := 1) (pc' := 36) dX7_word_33 rfl fX7_10 rfl (Or.inl dd_0) (Or.inl rr_0_0) ?_
      refine Z_iload_n (pc' := 37) dX7_word_36 rfl rfl ?_
      refine Z_iload_n (pc' := 38) dX7_word_37 rfl rfl ?_
      refine Z_callV0 (M' := mX5_partOfWord) (pc' := 41) (st := []) [vi x1, vi x2] dX7_word_38 rfl vX5_partOfWord lX7_115 (Or.inl dd_1) rfl (Nat.le_of_ble_eq_true rfl) (Nat.le_refl 0) (Nat.le_refl 0) ?_
      refine Cl_mono P ?_
      rintro _ μ9 ⟨r10, rfl, P⟩
      show Z SS none mX7_word (d + 1) 0 0 (qI Q) 41 [some (.ref 0), some (vi x1), some (vi x2)] [vi r10] μ9 0 0
      exact Z_ireturn dX7_word_41 rfl (Nat.le_refl 0) (Nat.le_refl 0) P
    · have P := P.1 c8
      refine Z_bipush (pc' := 31) dX7_word_29 rfl rfl ?_
      exact Z_ireturn dX7_word_31 rfl (Nat.le_refl 0) (Nat.le_refl 0) P
  · have P := P.1 c4
    refine Z_bipush (pc' := 19) dX7_word_17 rfl rfl ?_
    exact Z_ireturn dX7_word_19 rfl (Nat.le_refl 0) (Nat.le_refl 0) P
theorem bX7_cost {d : Nat} {Q : Int → zMem → Prop} {μ : zMem} {x1 : Int} (P : kX7_isIn d x1 1 12 μ (fun (r2 : Int) (μ1 : zMem) => (zIn r2) ∧ ((r2 = 0 → (Q (-3) μ1)) ∧ (¬ (r2 = 0) → (kX4_findBest d x1 μ1 (fun (r6 : Int) (μ5 : zMem) => Q r6 μ5)))))) : kX7_cost (d + 1) x1 μ Q := by
  refine Cl_of rfl (Nat.le_of_ble_eq_true rfl) rfl ?_
  show Z SS none mX7_cost (d + 1) 0 0 (qI Q) 0 [some (.ref 0), some (vi x1)] [] μ 0 0
  refine Z_iload_n (pc' := 1) dX7_cost_0 rfl rfl ?_
  refine Z_iconst (pc' := 2) dX7_cost_1 rfl ?_
  refine Z_bipush (pc' := 4) dX7_cost_2 rfl rfl ?_
  refine Z_callS0 (M' := mX7_isIn) (pc' := 7) (st := []) [vi x1, vi 1, vi 12] dX7_cost_4 rfl sX7_isIn lX7_45 rfl (Nat.le_of_ble_eq_true rfl) (Nat.le_refl 0) (Nat.le_refl 0) ?_
  refine Cl_mono P ?_
  rintro _ μ1 ⟨r2, rfl, P⟩
  show Z SS none mX7_cost (d + 1) 0 0 (qI Q) 7 [some (.ref 0), some (vi x1)] [vi r2] μ1 0 0
  have h3 := P.1
  have P := P.2
  refine Z_if_ne (tgt := 13) (pc' := 10) dX7_cost_7 (by decide) rfl h3 (fun c4 => ?_) (fun c4 => ?_)
  · have P := P.2 c4
    refine Z_aload_n (pc' := 14) dX7_cost_13 rfl rfl ?_
    refine Z_getR (q := 11) (pc' := 17) dX7_cost_14 rfl fX7_41 rfl (Or.inl dd_0) (Or.inl rr_0_6) ?_
    refine Z_aload_n (pc' := 18) dX7_cost_17 rfl rfl ?_
    refine Z_getR (q := 1) (pc' := 21) dX7_cost_18 rfl fX7_10 rfl (Or.inl dd_0) (Or.inl rr_0_0) ?_
    refine Z_iload_n (pc' := 22) dX7_cost_21 rfl rfl ?_
    refine Z_callV0 (M' := mX4_findBest) (pc' := 25) (st := []) [.ref 1, vi x1] dX7_cost_22 rfl vX4_findBest lX7_125 (Or.inl dd_11) rfl (Nat.le_of_ble_eq_true rfl) (Nat.le_refl 0) (Nat.le_refl 0) ?_
    refine Cl_mono P ?_
    rintro _ μ5 ⟨r6, rfl, P⟩
    show Z SS none mX7_cost (d + 1) 0 0 (qI Q) 25 [some (.ref 0), some (vi x1)] [vi r6] μ5 0 0
    exact Z_ireturn dX7_cost_25 rfl (Nat.le_refl 0) (Nat.le_refl 0) P
  · have P := P.1 c4
    refine Z_bipush (pc' := 12) dX7_cost_10 rfl rfl ?_
    exact Z_ireturn dX7_cost_12 rfl (Nat.le_refl 0) (Nat.le_refl 0) P
abbrev zX7_greatestBase_3 (d : Nat) (Q : Int → zMem → Prop) (x1 : Int) (x2 : Int) (μ : zMem) : Prop := Z SS none mX7_greatestBase (d + 1) 0 0 (qI Q) 3 [some (.ref 0), some (vi x1), some (vi x2)] [] μ 0 0
theorem bX7_greatestBase {d : Nat} {Q : Int → zMem → Prop} {μ : zMem} {x1 : Int} (P : zX7_greatestBase_3 d Q x1 12 μ) : kX7_greatestBase (d + 1) x1 μ Q := by
  refine Cl_of rfl (Nat.le_of_ble_eq_true rfl) rfl ?_
  show Z SS none mX7_greatestBase (d + 1) 0 0 (qI Q) 0 [some (.ref 0), some (vi x1), none] [] μ 0 0
  refine Z_bipush (pc' := 2) dX7_greatestBase_0 rfl rfl ?_
  refine Z_istore_n (pc' := 3) (lo' := [some (.ref 0), some (vi x1), some (vi 12)]) dX7_greatestBase_2 rfl (by decide) rfl ?_
  exact P
theorem bX7_greatestBase_3 {d : Nat} {Q : Int → zMem → Prop} {μ : zMem} {x1 : Int} {x2 : Int} (P : (zIn x2) ∧ ((x2 < 1 → (Q (-1) μ)) ∧ (¬ (x2 < 1) → (kX4_hasLayout d x2 (gI μ 6 0) x1 μ (fun (r4 : Int) (μ3 : zMem) => (zIn r4) ∧ ((r4 = 0 → (zX7_greatestBase_3 d Q x1 (x2 + (-1)) μ3)) ∧ (¬ (r4 = 0) → (Q x2 μ3)))))))) : zX7_greatestBase_3 d Q x1 x2 μ := by
  refine Z_iload_n (pc' := 4) dX7_greatestBase_3 rfl rfl ?_
  refine Z_iconst (pc' := 5) dX7_greatestBase_4 rfl ?_
  have h1 := P.1
  have P := P.2
  refine Z_icmp_lt (tgt := 41) (pc' := 8) dX7_greatestBase_5 (by decide) rfl h1 (z_lit rfl) (fun c2 => ?_) (fun c2 => ?_)
  · have P := P.1 c2
    refine Z_iconst (pc' := 42) dX7_greatestBase_41 rfl ?_
    exact Z_ireturn dX7_greatestBase_42 rfl (Nat.le_refl 0) (Nat.le_refl 0) P
  · have P := P.2 c2
    refine Z_aload_n (pc' := 9) dX7_greatestBase_8 rfl rfl ?_
    refine Z_getR (q := 11) (pc' := 12) dX7_greatestBase_9 rfl fX7_41 rfl (Or.inl dd_0) (Or.inl rr_0_6) ?_
    refine Z_aload_n (pc' := 13) dX7_greatestBase_12 rfl rfl ?_
    refine Z_getR (q := 1) (pc' := 16) dX7_greatestBase_13 rfl fX7_10 rfl (Or.inl dd_0) (Or.inl rr_0_0) ?_
    refine Z_iload_n (pc' := 17) dX7_greatestBase_16 rfl rfl ?_
    refine Z_aload_n (pc' := 18) dX7_greatestBase_17 rfl rfl ?_
    refine Z_getR (q := 1) (pc' := 21) dX7_greatestBase_18 rfl fX7_10 rfl (Or.inl dd_0) (Or.inl rr_0_0) ?_
    refine Z_getR (q := 6) (pc' := 24) dX7_greatestBase_21 rfl fX7_118 rfl (Or.inl dd_1) (Or.inl rr_1_3) ?_
    refine Z_iconst (pc' := 25) dX7_greatestBase_24 rfl ?_
    refine Z_iaload (pc' := 26) dX7_greatestBase_25 rfl (Or.inl dd_6) (Nat.le_of_ble_eq_true rfl) (by decide) (by decide) ?_
    refine Z_iload_n (pc' := 27) dX7_greatestBase_26 rfl rfl ?_
    refine Z_callV0 (M' := mX4_hasLayout) (pc' := 30) (st := []) [.ref 1, vi x2, vi (gI μ 6 0), vi x1] dX7_greatestBase_27 rfl vX4_hasLayout lX7_140 (Or.inl dd_11) rfl (Nat.le_of_ble_eq_true rfl) (Nat.le_refl 0) (Nat.le_refl 0) ?_
    refine Cl_mono P ?_
    rintro _ μ3 ⟨r4, rfl, P⟩
    show Z SS none mX7_greatestBase (d + 1) 0 0 (qI Q) 30 [some (.ref 0), some (vi x1), some (vi x2)] [vi r4] μ3 0 0
    have h5 := P.1
    have P := P.2
    refine Z_if_eq (tgt := 35) (pc' := 33) dX7_greatestBase_30 (by decide) rfl h5 (fun c6 => ?_) (fun c6 => ?_)
    · have P := P.1 c6
      refine Z_iinc (pc' := 38) (lo' := [some (.ref 0), some (vi x1), some (vi (x2 + (-1)))]) dX7_greatestBase_35 rfl (by decide) rfl rfl ?_
      refine Z_goto (tgt := 3) dX7_greatestBase_38 (by decide) ?_
      exact P
    · have P := P.2 c6
      refine Z_iload_n (pc' := 34) dX7_greatestBase_33 rfl rfl ?_
      exact Z_ireturn dX7_greatestBase_34 rfl (Nat.le_refl 0) (Nat.le_refl 0) P
theorem bX7_fit {d : Nat} {Q : Int → zMem → Prop} {μ : zMem}  (P : kX7_greatestBase d (gI μ 6 7) μ (fun (r2 : Int) (μ1 : zMem) => Q r2 μ1)) : kX7_fit (d + 1) μ Q := by
  refine Cl_of rfl (Nat.le_of_ble_eq_true rfl) rfl ?_
  show Z SS none mX7_fit (d + 1) 0 0 (qI Q) 0 [some (.ref 0)] [] μ 0 0
  refine Z_aload_n (pc' := 1) dX7_fit_0 rfl rfl ?_
  refine Z_aload_n (pc' := 2) dX7_fit_1 rfl rfl ?_
  refine Z_getR (q := 1) (pc' := 5) dX7_fit_2 rfl fX7_10 rfl (Or.inl dd_0) (Or.inl rr_0_0) ?_
  refine Z_getR (q := 6) (pc' := 8) dX7_fit_5 rfl fX7_118 rfl (Or.inl dd_1) (Or.inl rr_1_3) ?_
  refine Z_bipush (pc' := 10) dX7_fit_8 rfl rfl ?_
  refine Z_iaload (pc' := 11) dX7_fit_10 rfl (Or.inl dd_6) (Nat.le_of_ble_eq_true rfl) (by decide) (by decide) ?_
  refine Z_callV0 (M' := mX7_greatestBase) (pc' := 14) (st := []) [vi (gI μ 6 7)] dX7_fit_11 rfl vX7_greatestBase lX7_129 (Or.inl dd_0) rfl (Nat.le_of_ble_eq_true rfl) (Nat.le_refl 0) (Nat.le_refl 0) ?_
  refine Cl_mono P ?_
  rintro _ μ1 ⟨r2, rfl, P⟩
  show Z SS none mX7_fit (d + 1) 0 0 (qI Q) 14 [some (.ref 0)] [vi r2] μ1 0 0
  exact Z_ireturn dX7_fit_14 rfl (Nat.le_refl 0) (Nat.le_refl 0) P
theorem bX7_allowed {d : Nat} {Q : Int → zMem → Prop} {μ : zMem} {x1 : Int} (P : kX7_isIn d x1 1 12 μ (fun (r2 : Int) (μ1 : zMem) => (zIn r2) ∧ ((r2 = 0 → (Q (-3) μ1)) ∧ (¬ (r2 = 0) → (kX4_countLayouts d x1 μ1 (fun (r6 : Int) (μ5 : zMem) => Q r6 μ5)))))) : kX7_allowed (d + 1) x1 μ Q := by
  refine Cl_of rfl (Nat.le_of_ble_eq_true rfl) rfl ?_
  show Z SS none mX7_allowed (d + 1) 0 0 (qI Q) 0 [some (.ref 0), some (vi x1)] [] μ 0 0
  refine Z_iload_n (pc' := 1) dX7_allowed_0 rfl rfl ?_
  refine Z_iconst (pc' := 2) dX7_allowed_1 rfl ?_
  refine Z_bipush (pc' := 4) dX7_allowed_2 rfl rfl ?_
  refine Z_callS0 (M' := mX7_isIn) (pc' := 7) (st := []) [vi x1, vi 1, vi 12] dX7_allowed_4 rfl sX7_isIn lX7_45 rfl (Nat.le_of_ble_eq_true rfl) (Nat.le_refl 0) (Nat.le_refl 0) ?_
  refine Cl_mono P ?_
  rintro _ μ1 ⟨r2, rfl, P⟩
  show Z SS none mX7_allowed (d + 1) 0 0 (qI Q) 7 [some (.ref 0), some (vi x1)] [vi r2] μ1 0 0
  have h3 := P.1
  have P := P.2
  refine Z_if_ne (tgt := 13) (pc' := 10) dX7_allowed_7 (by decide) rfl h3 (fun c4 => ?_) (fun c4 => ?_)
  · have P := P.2 c4
    refine Z_aload_n (pc' := 14) dX7_allowed_13 rfl rfl ?_
    refine Z_getR (q := 11) (pc' := 17) dX7_allowed_14 rfl fX7_41 rfl (Or.inl dd_0) (Or.inl rr_0_6) ?_
    refine Z_aload_n (pc' := 18) dX7_allowed_17 rfl rfl ?_
    refine Z_getR (q := 1) (pc' := 21) dX7_allowed_18 rfl fX7_10 rfl (Or.inl dd_0) (Or.inl rr_0_0) ?_
    refine Z_iload_n (pc' := 22) dX7_allowed_21 rfl rfl ?_
    refine Z_callV0 (M' := mX4_countLayouts) (pc' := 25) (st := []) [.ref 1, vi x1] dX7_allowed_22 rfl vX4_countLayouts lX7_133 (Or.inl dd_11) rfl (Nat.le_of_ble_eq_true rfl) (Nat.le_refl 0) (Nat.le_refl 0) ?_
    refine Cl_mono P ?_
    rintro _ μ5 ⟨r6, rfl, P⟩
    show Z SS none mX7_allowed (d + 1) 0 0 (qI Q) 25 [some (.ref 0), some (vi x1)] [vi r6] μ5 0 0
    exact Z_ireturn dX7_allowed_25 rfl (Nat.le_refl 0) (Nat.le_refl 0) P
  · have P := P.1 c4
    refine Z_bipush (pc' := 12) dX7_allowed_10 rfl rfl ?_
    exact Z_ireturn dX7_allowed_12 rfl (Nat.le_refl 0) (Nat.le_refl 0) P
theorem bX7_take {d : Nat} {Q : Int → zMem → Prop} {μ : zMem} {x1 : Int} (P : (0 ≤ 4) ∧ ((0 ≤ 178) ∧ (kX7_isIn d x1 0 12 μ (fun (r4 : Int) (μ3 : zMem) => (zIn r4) ∧ ((r4 = 0 → (Q (-3) μ3)) ∧ (¬ (r4 = 0) → (kX7_remember d μ3 (fun μ7 : zMem => (zIn x1) ∧ ((x1 = 0 → (kX7_greatestBase d (gI μ7 6 7) μ7 (fun (r11 : Int) (μ10 : zMem) => (zIn r11) ∧ ((r11 = (-1) → (Q (-1) μ10)) ∧ (¬ (r11 = (-1)) → (kX4_findBest d r11 μ10 (fun (r16 : Int) (μ15 : zMem) => (zIn r16) ∧ ((r16 = (-1) → (Q r16 μ15)) ∧ (¬ (r16 = (-1)) → ((0 + 4 ≤ 4) ∧ ((0 + 178 ≤ 178) ∧ (kX4_describeBest d r11 μ15 (fun (r22 : Nat) (μ21 : zMem) => ((0 + 4) ≤ 4) ∧ (((0 + 178) ≤ 178) ∧ (Q r16 (sR μ21 1 4 (some r22))))))))))))))))) ∧ (¬ (x1 = 0) → ((x1 = (-1) → (Q (-1) μ7)) ∧ (¬ (x1 = (-1)) → (kX4_findBest d x1 μ7 (fun (r28 : Int) (μ27 : zMem) => (zIn r28) ∧ ((r28 = (-1) → (Q r28 μ27)) ∧ (¬ (r28 = (-1)) → ((0 + 4 ≤ 4) ∧ ((0 + 178 ≤ 178) ∧ (kX4_describeBest d x1 μ27 (fun (r34 : Nat) (μ33 : zMem) => ((0 + 4) ≤ 4) ∧ (((0 + 178) ≤ 178) ∧ (Q r28 (sR μ33 1 4 (some r34)))))))))))))))))))))))) : kX7_take (d + 1) x1 μ Q := by
  refine Cl_of rfl (Nat.le_of_ble_eq_true rfl) rfl ?_
  show Z SS none mX7_take (d + 1) 4 178 (qI Q) 0 [some (.ref 0), some (vi x1), none, none] [] μ 0 0
  refine Z_iload_n (pc' := 1) dX7_take_0 rfl rfl ?_
  refine Z_iconst (pc' := 2) dX7_take_1 rfl ?_
  refine Z_bipush (pc' := 4) dX7_take_2 rfl rfl ?_
  have h1 := P.1
  have P := P.2
  have h2 := P.1
  have P := P.2
  refine Z_callS0 (M' := mX7_isIn) (pc' := 7) (st := []) [vi x1, vi 0, vi 12] dX7_take_4 rfl sX7_isIn lX7_45 rfl (Nat.le_of_ble_eq_true rfl) h1 h2 ?_
  refine Cl_mono P ?_
  rintro _ μ3 ⟨r4, rfl, P⟩
  show Z SS none mX7_take (d + 1) 4 178 (qI Q) 7 [some (.ref 0), some (vi x1), none, none] [vi r4] μ3 0 0
  have h5 := P.1
  have P := P.2
  refine Z_if_ne (tgt := 13) (pc' := 10) dX7_take_7 (by decide) rfl h5 (fun c6 => ?_) (fun c6 => ?_)
  · have P := P.2 c6
    refine Z_aload_n (pc' := 14) dX7_take_13 rfl rfl ?_
    refine Z_callV0 (M' := mX7_remember) (pc' := 17) (st := []) [] dX7_take_14 rfl vX7_remember lX7_62 (Or.inl dd_0) rfl (Nat.le_of_ble_eq_true rfl) h1 h2 ?_
    refine Cl_mono P ?_
    rintro _ μ7 ⟨rfl, P⟩
    show Z SS none mX7_take (d + 1) 4 178 (qI Q) 17 [some (.ref 0), some (vi x1), none, none] [] μ7 0 0
    refine Z_iload_n (pc' := 18) dX7_take_17 rfl rfl ?_
    have h8 := P.1
    have P := P.2
    refine Z_if_ne (tgt := 38) (pc' := 21) dX7_take_18 (by decide) rfl h8 (fun c9 => ?_) (fun c9 => ?_)
    · have P := P.2 c9
      refine Z_iload_n (pc' := 39) dX7_take_38 rfl rfl ?_
      refine Z_istore_n (pc' := 40) (lo' := [some (.ref 0), some (vi x1), some (vi x1), none]) dX7_take_39 rfl (by decide) rfl ?_
      refine Z_iload_n (pc' := 41) dX7_take_40 rfl rfl ?_
      refine Z_iconst (pc' := 42) dX7_take_41 rfl ?_
      refine Z_icmp_ne (tgt := 49) (pc' := 45) dX7_take_42 (by decide) rfl h8 (z_lit rfl) (fun c25 => ?_) (fun c25 => ?_)
      · have P := P.2 c25
        refine Z_aload_n (pc' := 50) dX7_take_49 rfl rfl ?_
        refine Z_getR (q := 11) (pc' := 53) dX7_take_50 rfl fX7_41 rfl (Or.inl dd_0) (Or.inl rr_0_6) ?_
        refine Z_aload_n (pc' := 54) dX7_take_53 rfl rfl ?_
        refine Z_getR (q := 1) (pc' := 57) dX7_take_54 rfl fX7_10 rfl (Or.inl dd_0) (Or.inl rr_0_0) ?_
        refine Z_iload_n (pc' := 58) dX7_take_57 rfl rfl ?_
        refine Z_callV0 (M' := mX4_findBest) (pc' := 61) (st := []) [.ref 1, vi x1] dX7_take_58 rfl vX4_findBest lX7_125 (Or.inl dd_11) rfl (Nat.le_of_ble_eq_true rfl) h1 h2 ?_
        refine Cl_mono P ?_
        rintro _ μ27 ⟨r28, rfl, P⟩
        show Z SS none mX7_take (d + 1) 4 178 (qI Q) 61 [some (.ref 0), some (vi x1), some (vi x1), none] [vi r28] μ27 0 0
        refine Z_istore_n (pc' := 62) (lo' := [some (.ref 0), some (vi x1), some (vi x1), some (vi r28)]) dX7_take_61 rfl (by decide) rfl ?_
        refine Z_iload_n (pc' := 63) dX7_take_62 rfl rfl ?_
        refine Z_iconst (pc' := 64) dX7_take_63 rfl ?_
        have h29 := P.1
        have P := P.2
        refine Z_icmp_eq (tgt := 82) (pc' := 67) dX7_take_64 (by decide) rfl h29 (z_lit rfl) (fun c30 => ?_) (fun c30 => ?_)
        · have P := P.1 c30
          refine Z_iload_n (pc' := 83) dX7_take_82 rfl rfl ?_
          exact Z_ireturn dX7_take_83 rfl h1 h2 P
        · have P := P.2 c30
          refine Z_aload_n (pc' := 68) dX7_take_67 rfl rfl ?_
          refine Z_getR (q := 1) (pc' := 71) dX7_take_68 rfl fX7_10 rfl (Or.inl dd_0) (Or.inl rr_0_0) ?_
          refine Z_aload_n (pc' := 72) dX7_take_71 rfl rfl ?_
          refine Z_getR (q := 11) (pc' := 75) dX7_take_72 rfl fX7_41 rfl (Or.inl dd_0) (Or.inl rr_0_6) ?_
          refine Z_iload_n (pc' := 76) dX7_take_75 rfl rfl ?_
          have h31 := P.1
          have P := P.2
          have h32 := P.1
          have P := P.2
          refine Z_callV (M' := mX4_describeBest) (pc' := 79) (st := [.ref 1]) [vi x1] dX7_take_76 rfl vX4_describeBest lX7_136 (Or.inl dd_11) rfl (Nat.le_of_ble_eq_true rfl) h31 h32 ?_
          refine Cl_mono P ?_
          rintro _ μ33 ⟨r34, rfl, P⟩
          show Z SS none mX7_take (d + 1) 4 178 (qI Q) 79 [some (.ref 0), some (vi x1), some (vi x1), some (vi r28)] [.ref r34, .ref 1] μ33 (0 + 4) (0 + 178)
          refine Z_putR' (ji := 4) (pc' := 82) dX7_take_79 rfl rfl fX7_121 (Or.inl rfl) rfl (Or.inl dd_1) (Or.inl (st_r4 isSt_1)) ?_
          refine Z_iload_n (pc' := 83) dX7_take_82 rfl rfl ?_
          have h35 := P.1
          have P := P.2
          have h36 := P.1
          have P := P.2
          exact Z_ireturn dX7_take_83 rfl h35 h36 P
      · have P := P.1 c25
        refine Z_iconst (pc' := 46) dX7_take_45 rfl ?_
        refine Z_goto (tgt := 61) dX7_take_46 (by decide) ?_
        refine Z_istore_n (pc' := 62) (lo' := [some (.ref 0), some (vi x1), some (vi x1), some (vi (-1))]) dX7_take_61 rfl (by decide) rfl ?_
        refine Z_iload_n (pc' := 63) dX7_take_62 rfl rfl ?_
        refine Z_iconst (pc' := 64) dX7_take_63 rfl ?_
        refine Z_icmp_eq (tgt := 82) (pc' := 67) dX7_take_64 (by decide) rfl (z_lit rfl) (z_lit rfl) (fun c26 => ?_) (fun c26 => ?_)
        · refine Z_iload_n (pc' := 83) dX7_take_82 rfl rfl ?_
          exact Z_ireturn dX7_take_83 rfl h1 h2 P
        · exact absurd c26 (by decide)
    · have P := P.1 c9
      refine Z_aload_n (pc' := 22) dX7_take_21 rfl rfl ?_
      refine Z_aload_n (pc' := 23) dX7_take_22 rfl rfl ?_
      refine Z_getR (q := 1) (pc' := 26) dX7_take_23 rfl fX7_10 rfl (Or.inl dd_0) (Or.inl rr_0_0) ?_
      refine Z_getR (q := 6) (pc' := 29) dX7_take_26 rfl fX7_118 rfl (Or.inl dd_1) (Or.inl rr_1_3) ?_
      refine Z_bipush (pc' := 31) dX7_take_29 rfl rfl ?_
      refine Z_iaload (pc' := 32) dX7_take_31 rfl (Or.inl dd_6) (Nat.le_of_ble_eq_true rfl) (by decide) (by decide) ?_
      refine Z_callV0 (M' := mX7_greatestBase) (pc' := 35) (st := []) [vi (gI μ7 6 7)] dX7_take_32 rfl vX7_greatestBase lX7_129 (Or.inl dd_0) rfl (Nat.le_of_ble_eq_true rfl) h1 h2 ?_
      refine Cl_mono P ?_
      rintro _ μ10 ⟨r11, rfl, P⟩
      show Z SS none mX7_take (d + 1) 4 178 (qI Q) 35 [some (.ref 0), some (vi x1), none, none] [vi r11] μ10 0 0
      refine Z_goto (tgt := 39) dX7_take_35 (by decide) ?_
      refine Z_istore_n (pc' := 40) (lo' := [some (.ref 0), some (vi x1), some (vi r11), none]) dX7_take_39 rfl (by decide) rfl ?_
      refine Z_iload_n (pc' := 41) dX7_take_40 rfl rfl ?_
      refine Z_iconst (pc' := 42) dX7_take_41 rfl ?_
      have h12 := P.1
      have P := P.2
      refine Z_icmp_ne (tgt := 49) (pc' := 45) dX7_take_42 (by decide) rfl h12 (z_lit rfl) (fun c13 => ?_) (fun c13 => ?_)
      · have P := P.2 c13
        refine Z_aload_n (pc' := 50) dX7_take_49 rfl rfl ?_
        refine Z_getR (q := 11) (pc' := 53) dX7_take_50 rfl fX7_41 rfl (Or.inl dd_0) (Or.inl rr_0_6) ?_
        refine Z_aload_n (pc' := 54) dX7_take_53 rfl rfl ?_
        refine Z_getR (q := 1) (pc' := 57) dX7_take_54 rfl fX7_10 rfl (Or.inl dd_0) (Or.inl rr_0_0) ?_
        refine Z_iload_n (pc' := 58) dX7_take_57 rfl rfl ?_
        refine Z_callV0 (M' := mX4_findBest) (pc' := 61) (st := []) [.ref 1, vi r11] dX7_take_58 rfl vX4_findBest lX7_125 (Or.inl dd_11) rfl (Nat.le_of_ble_eq_true rfl) h1 h2 ?_
        refine Cl_mono P ?_
        rintro _ μ15 ⟨r16, rfl, P⟩
        show Z SS none mX7_take (d + 1) 4 178 (qI Q) 61 [some (.ref 0), some (vi x1), some (vi r11), none] [vi r16] μ15 0 0
        refine Z_istore_n (pc' := 62) (lo' := [some (.ref 0), some (vi x1), some (vi r11), some (vi r16)]) dX7_take_61 rfl (by decide) rfl ?_
        refine Z_iload_n (pc' := 63) dX7_take_62 rfl rfl ?_
        refine Z_iconst (pc' := 64) dX7_take_63 rfl ?_
        have h17 := P.1
        have P := P.2
        refine Z_icmp_eq (tgt := 82) (pc' := 67) dX7_take_64 (by decide) rfl h17 (z_lit rfl) (fun c18 => ?_) (fun c18 => ?_)
        · have P := P.1 c18
          refine Z_iload_n (pc' := 83) dX7_take_82 rfl rfl ?_
          exact Z_ireturn dX7_take_83 rfl h1 h2 P
        · have P := P.2 c18
          refine Z_aload_n (pc' := 68) dX7_take_67 rfl rfl ?_
          refine Z_getR (q := 1) (pc' := 71) dX7_take_68 rfl fX7_10 rfl (Or.inl dd_0) (Or.inl rr_0_0) ?_
          refine Z_aload_n (pc' := 72) dX7_take_71 rfl rfl ?_
          refine Z_getR (q := 11) (pc' := 75) dX7_take_72 rfl fX7_41 rfl (Or.inl dd_0) (Or.inl rr_0_6) ?_
          refine Z_iload_n (pc' := 76) dX7_take_75 rfl rfl ?_
          have h19 := P.1
          have P := P.2
          have h20 := P.1
          have P := P.2
          refine Z_callV (M' := mX4_describeBest) (pc' := 79) (st := [.ref 1]) [vi r11] dX7_take_76 rfl vX4_describeBest lX7_136 (Or.inl dd_11) rfl (Nat.le_of_ble_eq_true rfl) h19 h20 ?_
          refine Cl_mono P ?_
          rintro _ μ21 ⟨r22, rfl, P⟩
          show Z SS none mX7_take (d + 1) 4 178 (qI Q) 79 [some (.ref 0), some (vi x1), some (vi r11), some (vi r16)] [.ref r22, .ref 1] μ21 (0 + 4) (0 + 178)
          refine Z_putR' (ji := 4) (pc' := 82) dX7_take_79 rfl rfl fX7_121 (Or.inl rfl) rfl (Or.inl dd_1) (Or.inl (st_r4 isSt_1)) ?_
          refine Z_iload_n (pc' := 83) dX7_take_82 rfl rfl ?_
          have h23 := P.1
          have P := P.2
          have h24 := P.1
          have P := P.2
          exact Z_ireturn dX7_take_83 rfl h23 h24 P
      · have P := P.1 c13
        refine Z_iconst (pc' := 46) dX7_take_45 rfl ?_
        refine Z_goto (tgt := 61) dX7_take_46 (by decide) ?_
        refine Z_istore_n (pc' := 62) (lo' := [some (.ref 0), some (vi x1), some (vi r11), some (vi (-1))]) dX7_take_61 rfl (by decide) rfl ?_
        refine Z_iload_n (pc' := 63) dX7_take_62 rfl rfl ?_
        refine Z_iconst (pc' := 64) dX7_take_63 rfl ?_
        refine Z_icmp_eq (tgt := 82) (pc' := 67) dX7_take_64 (by decide) rfl (z_lit rfl) (z_lit rfl) (fun c14 => ?_) (fun c14 => ?_)
        · refine Z_iload_n (pc' := 83) dX7_take_82 rfl rfl ?_
          exact Z_ireturn dX7_take_83 rfl h1 h2 P
        · exact absurd c14 (by decide)
  · have P := P.1 c6
    refine Z_bipush (pc' := 12) dX7_take_10 rfl rfl ?_
    exact Z_ireturn dX7_take_12 rfl h1 h2 P
abbrev zX7_widestStep_15 (d : Nat) (Q : Int → zMem → Prop) (x1 : Int) (x2 : Int) (μ : zMem) : Prop := Z SS none mX7_widestStep (d + 1) 0 0 (qI Q) 15 [some (.ref 0), some (vi x1), some (vi x2)] [] μ 0 0
theorem bX7_widestStep {d : Nat} {Q : Int → zMem → Prop} {μ : zMem} {x1 : Int} (P : kX7_isIn d x1 1 12 μ (fun (r2 : Int) (μ1 : zMem) => (zIn r2) ∧ ((r2 = 0 → (Q (-3) μ1)) ∧ (¬ (r2 = 0) → (zX7_widestStep_15 d Q x1 4 μ1))))) : kX7_widestStep (d + 1) x1 μ Q := by
  refine Cl_of rfl (Nat.le_of_ble_eq_true rfl) rfl ?_
  show Z SS none mX7_widestStep (d + 1) 0 0 (qI Q) 0 [some (.ref 0), some (vi x1), none] [] μ 0 0
  refine Z_iload_n (pc' := 1) dX7_widestStep_0 rfl rfl ?_
  refine Z_iconst (pc' := 2) dX7_widestStep_1 rfl ?_
  refine Z_bipush (pc' := 4) dX7_widestStep_2 rfl rfl ?_
  refine Z_callS0 (M' := mX7_isIn) (pc' := 7) (st := []) [vi x1, vi 1, vi 12] dX7_widestStep_4 rfl sX7_isIn lX7_45 rfl (Nat.le_of_ble_eq_true rfl) (Nat.le_refl 0) (Nat.le_refl 0) ?_
  refine Cl_mono P ?_
  rintro _ μ1 ⟨r2, rfl, P⟩
  show Z SS none mX7_widestStep (d + 1) 0 0 (qI Q) 7 [some (.ref 0), some (vi x1), none] [vi r2] μ1 0 0
  have h3 := P.1
  have P := P.2
  refine Z_if_ne (tgt := 13) (pc' := 10) dX7_widestStep_7 (by decide) rfl h3 (fun c4 => ?_) (fun c4 => ?_)
  · have P := P.2 c4
    refine Z_iconst (pc' := 14) dX7_widestStep_13 rfl ?_
    refine Z_istore_n (pc' := 15) (lo' := [some (.ref 0), some (vi x1), some (vi 4)]) dX7_widestStep_14 rfl (by decide) rfl ?_
    exact P
  · have P := P.1 c4
    refine Z_bipush (pc' := 12) dX7_widestStep_10 rfl rfl ?_
    exact Z_ireturn dX7_widestStep_12 rfl (Nat.le_refl 0) (Nat.le_refl 0) P
theorem bX7_widestStep_15 {d : Nat} {Q : Int → zMem → Prop} {μ : zMem} {x1 : Int} {x2 : Int} (P : (zIn x2) ∧ ((x2 < 0 → (Q (-1) μ)) ∧ (¬ (x2 < 0) → (kX4_hasLayout d x1 x2 (gI μ 6 7) μ (fun (r4 : Int) (μ3 : zMem) => (zIn r4) ∧ ((r4 = 0 → (zX7_widestStep_15 d Q x1 (x2 + (-1)) μ3)) ∧ (¬ (r4 = 0) → (Q x2 μ3)))))))) : zX7_widestStep_15 d Q x1 x2 μ := by
  refine Z_iload_n (pc' := 16) dX7_widestStep_15 rfl rfl ?_
  have h1 := P.1
  have P := P.2
  refine Z_if_lt (tgt := 53) (pc' := 19) dX7_widestStep_16 (by decide) rfl h1 (fun c2 => ?_) (fun c2 => ?_)
  · have P := P.1 c2
    refine Z_iconst (pc' := 54) dX7_widestStep_53 rfl ?_
    exact Z_ireturn dX7_widestStep_54 rfl (Nat.le_refl 0) (Nat.le_refl 0) P
  · have P := P.2 c2
    refine Z_aload_n (pc' := 20) dX7_widestStep_19 rfl rfl ?_
    refine Z_getR (q := 11) (pc' := 23) dX7_widestStep_20 rfl fX7_41 rfl (Or.inl dd_0) (Or.inl rr_0_6) ?_
    refine Z_aload_n (pc' := 24) dX7_widestStep_23 rfl rfl ?_
    refine Z_getR (q := 1) (pc' := 27) dX7_widestStep_24 rfl fX7_10 rfl (Or.inl dd_0) (Or.inl rr_0_0) ?_
    refine Z_iload_n (pc' := 28) dX7_widestStep_27 rfl rfl ?_
    refine Z_iload_n (pc' := 29) dX7_widestStep_28 rfl rfl ?_
    refine Z_aload_n (pc' := 30) dX7_widestStep_29 rfl rfl ?_
    refine Z_getR (q := 1) (pc' := 33) dX7_widestStep_30 rfl fX7_10 rfl (Or.inl dd_0) (Or.inl rr_0_0) ?_
    refine Z_getR (q := 6) (pc' := 36) dX7_widestStep_33 rfl fX7_118 rfl (Or.inl dd_1) (Or.inl rr_1_3) ?_
    refine Z_bipush (pc' := 38) dX7_widestStep_36 rfl rfl ?_
    refine Z_iaload (pc' := 39) dX7_widestStep_38 rfl (Or.inl dd_6) (Nat.le_of_ble_eq_true rfl) (by decide) (by decide) ?_
    refine Z_callV0 (M' := mX4_hasLayout) (pc' := 42) (st := []) [.ref 1, vi x1, vi x2, vi (gI μ 6 7)] dX7_widestStep_39 rfl vX4_hasLayout lX7_140 (Or.inl dd_11) rfl (Nat.le_of_ble_eq_true rfl) (Nat.le_refl 0) (Nat.le_refl 0) ?_
    refine Cl_mono P ?_
    rintro _ μ3 ⟨r4, rfl, P⟩
    show Z SS none mX7_widestStep (d + 1) 0 0 (qI Q) 42 [some (.ref 0), some (vi x1), some (vi x2)] [vi r4] μ3 0 0
    have h5 := P.1
    have P := P.2
    refine Z_if_eq (tgt := 47) (pc' := 45) dX7_widestStep_42 (by decide) rfl h5 (fun c6 => ?_) (fun c6 => ?_)
    · have P := P.1 c6
      refine Z_iinc (pc' := 50) (lo' := [some (.ref 0), some (vi x1), some (vi (x2 + (-1)))]) dX7_widestStep_47 rfl (by decide) rfl rfl ?_
      refine Z_goto (tgt := 15) dX7_widestStep_50 (by decide) ?_
      exact P
    · have P := P.2 c6
      refine Z_iload_n (pc' := 46) dX7_widestStep_45 rfl rfl ?_
      exact Z_ireturn dX7_widestStep_46 rfl (Nat.le_refl 0) (Nat.le_refl 0) P
abbrev zX7_tightestLimit_16 (d : Nat) (Q : Int → zMem → Prop) (x1 : Int) (x2 : Int) (μ : zMem) : Prop := Z SS none mX7_tightestLimit (d + 1) 0 0 (qI Q) 16 [some (.ref 0), some (vi x1), some (vi x2)] [] μ 0 0
theorem bX7_tightestLimit {d : Nat} {Q : Int → zMem → Prop} {μ : zMem}  (P : kX7_greatestBase d 9 μ (fun (r2 : Int) (μ1 : zMem) => (zIn r2) ∧ ((r2 = (-1) → (Q (-1) μ1)) ∧ (¬ (r2 = (-1)) → (zX7_tightestLimit_16 d Q r2 1 μ1))))) : kX7_tightestLimit (d + 1) μ Q := by
  refine Cl_of rfl (Nat.le_of_ble_eq_true rfl) rfl ?_
  show Z SS none mX7_tightestLimit (d + 1) 0 0 (qI Q) 0 [some (.ref 0), none, none] [] μ 0 0
  refine Z_aload_n (pc' := 1) dX7_tightestLimit_0 rfl rfl ?_
  refine Z_bipush (pc' := 3) dX7_tightestLimit_1 rfl rfl ?_
  refine Z_callV0 (M' := mX7_greatestBase) (pc' := 6) (st := []) [vi 9] dX7_tightestLimit_3 rfl vX7_greatestBase lX7_129 (Or.inl dd_0) rfl (Nat.le_of_ble_eq_true rfl) (Nat.le_refl 0) (Nat.le_refl 0) ?_
  refine Cl_mono P ?_
  rintro _ μ1 ⟨r2, rfl, P⟩
  show Z SS none mX7_tightestLimit (d + 1) 0 0 (qI Q) 6 [some (.ref 0), none, none] [vi r2] μ1 0 0
  refine Z_istore_n (pc' := 7) (lo' := [some (.ref 0), some (vi r2), none]) dX7_tightestLimit_6 rfl (by decide) rfl ?_
  refine Z_iload_n (pc' := 8) dX7_tightestLimit_7 rfl rfl ?_
  refine Z_iconst (pc' := 9) dX7_tightestLimit_8 rfl ?_
  have h3 := P.1
  have P := P.2
  refine Z_icmp_ne (tgt := 14) (pc' := 12) dX7_tightestLimit_9 (by decide) rfl h3 (z_lit rfl) (fun c4 => ?_) (fun c4 => ?_)
  · have P := P.2 c4
    refine Z_iconst (pc' := 15) dX7_tightestLimit_14 rfl ?_
    refine Z_istore_n (pc' := 16) (lo' := [some (.ref 0), some (vi r2), some (vi 1)]) dX7_tightestLimit_15 rfl (by decide) rfl ?_
    exact P
  · have P := P.1 c4
    refine Z_iconst (pc' := 13) dX7_tightestLimit_12 rfl ?_
    exact Z_ireturn dX7_tightestLimit_13 rfl (Nat.le_refl 0) (Nat.le_refl 0) P
theorem bX7_tightestLimit_16 {d : Nat} {Q : Int → zMem → Prop} {μ : zMem} {x1 : Int} {x2 : Int} (P : (zIn x2) ∧ ((9 ≤ x2 → (Q 9 μ)) ∧ (¬ (9 ≤ x2) → (kX4_hasLayout d x1 (gI μ 6 0) x2 μ (fun (r4 : Int) (μ3 : zMem) => (zIn r4) ∧ ((r4 = 0 → (zX7_tightestLimit_16 d Q x1 (x2 + 1) μ3)) ∧ (¬ (r4 = 0) → (Q x2 μ3)))))))) : zX7_tightestLimit_16 d Q x1 x2 μ := by
  refine Z_iload_n (pc' := 17) dX7_tightestLimit_16 rfl rfl ?_
  refine Z_bipush (pc' := 19) dX7_tightestLimit_17 rfl rfl ?_
  have h1 := P.1
  have P := P.2
  refine Z_icmp_ge (tgt := 55) (pc' := 22) dX7_tightestLimit_19 (by decide) rfl h1 (z_lit rfl) (fun c2 => ?_) (fun c2 => ?_)
  · have P := P.1 c2
    refine Z_bipush (pc' := 57) dX7_tightestLimit_55 rfl rfl ?_
    exact Z_ireturn dX7_tightestLimit_57 rfl (Nat.le_refl 0) (Nat.le_refl 0) P
  · have P := P.2 c2
    refine Z_aload_n (pc' := 23) dX7_tightestLimit_22 rfl rfl ?_
    refine Z_getR (q := 11) (pc' := 26) dX7_tightestLimit_23 rfl fX7_41 rfl (Or.inl dd_0) (Or.inl rr_0_6) ?_
    refine Z_aload_n (pc' := 27) dX7_tightestLimit_26 rfl rfl ?_
    refine Z_getR (q := 1) (pc' := 30) dX7_tightestLimit_27 rfl fX7_10 rfl (Or.inl dd_0) (Or.inl rr_0_0) ?_
    refine Z_iload_n (pc' := 31) dX7_tightestLimit_30 rfl rfl ?_
    refine Z_aload_n (pc' := 32) dX7_tightestLimit_31 rfl rfl ?_
    refine Z_getR (q := 1) (pc' := 35) dX7_tightestLimit_32 rfl fX7_10 rfl (Or.inl dd_0) (Or.inl rr_0_0) ?_
    refine Z_getR (q := 6) (pc' := 38) dX7_tightestLimit_35 rfl fX7_118 rfl (Or.inl dd_1) (Or.inl rr_1_3) ?_
    refine Z_iconst (pc' := 39) dX7_tightestLimit_38 rfl ?_
    refine Z_iaload (pc' := 40) dX7_tightestLimit_39 rfl (Or.inl dd_6) (Nat.le_of_ble_eq_true rfl) (by decide) (by decide) ?_
    refine Z_iload_n (pc' := 41) dX7_tightestLimit_40 rfl rfl ?_
    refine Z_callV0 (M' := mX4_hasLayout) (pc' := 44) (st := []) [.ref 1, vi x1, vi (gI μ 6 0), vi x2] dX7_tightestLimit_41 rfl vX4_hasLayout lX7_140 (Or.inl dd_11) rfl (Nat.le_of_ble_eq_true rfl) (Nat.le_refl 0) (Nat.le_refl 0) ?_
    refine Cl_mono P ?_
    rintro _ μ3 ⟨r4, rfl, P⟩
    show Z SS none mX7_tightestLimit (d + 1) 0 0 (qI Q) 44 [some (.ref 0), some (vi x1), some (vi x2)] [vi r4] μ3 0 0
    have h5 := P.1
    have P := P.2
    refine Z_if_eq (tgt := 49) (pc' := 47) dX7_tightestLimit_44 (by decide) rfl h5 (fun c6 => ?_) (fun c6 => ?_)
    · have P := P.1 c6
      refine Z_iinc (pc' := 52) (lo' := [some (.ref 0), some (vi x1), some (vi (x2 + 1))]) dX7_tightestLimit_49 rfl (by decide) rfl rfl ?_
      refine Z_goto (tgt := 16) dX7_tightestLimit_52 (by decide) ?_
      exact P
    · have P := P.2 c6
      refine Z_iload_n (pc' := 48) dX7_tightestLimit_47 rfl rfl ?_
      exact Z_ireturn dX7_tightestLimit_48 rfl (Nat.le_refl 0) (Nat.le_refl 0) P
theorem bX7_layout {d : Nat} {Q : Int → zMem → Prop} {μ : zMem} {x1 : Int} (P : kX7_isIn d x1 0 4 μ (fun (r2 : Int) (μ1 : zMem) => (zIn r2) ∧ ((r2 = 0 → (Q (-3) μ1)) ∧ (¬ (r2 = 0) → ((gR μ1 1 4 = none → (Q (-4) μ1)) ∧ (∀ q5 : Nat, gR μ1 1 4 = some q5 → (((gD μ1)[q5]? = some (2, 0)) ∧ ((gR μ1 q5 2 = some (q5 + 1)) ∧ ((zA μ1 (q5 + 1) x1) ∧ (Q (gI μ1 (q5 + 1) x1) μ1)))))))))) : kX7_layout (d + 1) x1 μ Q := by
  refine Cl_of rfl (Nat.le_of_ble_eq_true rfl) rfl ?_
  show Z SS none mX7_layout (d + 1) 0 0 (qI Q) 0 [some (.ref 0), some (vi x1)] [] μ 0 0
  refine Z_iload_n (pc' := 1) dX7_layout_0 rfl rfl ?_
  refine Z_iconst (pc' := 2) dX7_layout_1 rfl ?_
  refine Z_iconst (pc' := 3) dX7_layout_2 rfl ?_
  refine Z_callS0 (M' := mX7_isIn) (pc' := 6) (st := []) [vi x1, vi 0, vi 4] dX7_layout_3 rfl sX7_isIn lX7_45 rfl (Nat.le_of_ble_eq_true rfl) (Nat.le_refl 0) (Nat.le_refl 0) ?_
  refine Cl_mono P ?_
  rintro _ μ1 ⟨r2, rfl, P⟩
  show Z SS none mX7_layout (d + 1) 0 0 (qI Q) 6 [some (.ref 0), some (vi x1)] [vi r2] μ1 0 0
  have h3 := P.1
  have P := P.2
  refine Z_if_ne (tgt := 12) (pc' := 9) dX7_layout_6 (by decide) rfl h3 (fun c4 => ?_) (fun c4 => ?_)
  · have P := P.2 c4
    refine Z_aload_n (pc' := 13) dX7_layout_12 rfl rfl ?_
    refine Z_getR (q := 1) (pc' := 16) dX7_layout_13 rfl fX7_10 rfl (Or.inl dd_0) (Or.inl rr_0_0) ?_
    refine Z_getO' (ji := 4) (pc' := 19) dX7_layout_16 rfl rfl fX7_121 rfl (Or.inl dd_1) ?_
    refine Z_ifnonnull (tgt := 25) (pc' := 22) dX7_layout_19 (by decide) rfl (fun q5 c6 => ?_) (fun c6 => ?_)
    · have P := P.2 q5 c6
      refine Z_aload_n (pc' := 26) dX7_layout_25 rfl rfl ?_
      refine Z_getR (q := 1) (pc' := 29) dX7_layout_26 rfl fX7_10 rfl (Or.inl dd_0) (Or.inl rr_0_0) ?_
      refine Z_getR (q := q5) (pc' := 32) dX7_layout_29 rfl fX7_121 rfl (Or.inl dd_1) (Or.inr c6) ?_
      have h7 := P.1
      have P := P.2
      have h8 := P.1
      have P := P.2
      refine Z_getR (q := q5 + 1) (pc' := 35) dX7_layout_32 rfl fX7_144 rfl (Or.inr h7) (Or.inr h8) ?_
      refine Z_iload_n (pc' := 36) dX7_layout_35 rfl rfl ?_
      have h9 := P.1
      have P := P.2
      refine Z_ialoadA (pc' := 37) dX7_layout_36 rfl h9 ?_
      exact Z_ireturn dX7_layout_37 rfl (Nat.le_refl 0) (Nat.le_refl 0) P
    · have P := P.1 c6
      refine Z_bipush (pc' := 24) dX7_layout_22 rfl rfl ?_
      exact Z_ireturn dX7_layout_24 rfl (Nat.le_refl 0) (Nat.le_refl 0) P
  · have P := P.1 c4
    refine Z_bipush (pc' := 11) dX7_layout_9 rfl rfl ?_
    exact Z_ireturn dX7_layout_11 rfl (Nat.le_refl 0) (Nat.le_refl 0) P
theorem bX7_line {d : Nat} {Q : Int → zMem → Prop} {μ : zMem} {x1 : Int} {x2 : Int} (P : (gR μ 1 4 = none → (Q (-4) μ)) ∧ (∀ q1 : Nat, gR μ 1 4 = some q1 → (((gD μ)[q1]? = some (2, 0)) ∧ (kX7_isIn d x1 0 ((gI μ q1 0) - 1) μ (fun (r5 : Int) (μ4 : zMem) => (zIn r5) ∧ ((r5 = 0 → (Q (-2) μ4)) ∧ (¬ (r5 = 0) → (kX7_isIn d x2 0 6 μ4 (fun (r9 : Int) (μ8 : zMem) => (zIn r9) ∧ ((r9 = 0 → (Q (-3) μ8)) ∧ (¬ (r9 = 0) → (∃ q12 : Nat, (gR μ8 1 4 = some q12) ∧ (((gD μ8)[q12]? = some (2, 0)) ∧ ((gR μ8 q12 3 = some (q12 + 2)) ∧ ((zA μ8 (q12 + 2) ((x1 * 7) + x2)) ∧ (Q (gI μ8 (q12 + 2) ((x1 * 7) + x2)) μ8)))))))))))))))) : kX7_line (d + 1) x1 x2 μ Q := by
  refine Cl_of rfl (Nat.le_of_ble_eq_true rfl) rfl ?_
  show Z SS none mX7_line (d + 1) 0 0 (qI Q) 0 [some (.ref 0), some (vi x1), some (vi x2)] [] μ 0 0
  refine Z_aload_n (pc' := 1) dX7_line_0 rfl rfl ?_
  refine Z_getR (q := 1) (pc' := 4) dX7_line_1 rfl fX7_10 rfl (Or.inl dd_0) (Or.inl rr_0_0) ?_
  refine Z_getO' (ji := 4) (pc' := 7) dX7_line_4 rfl rfl fX7_121 rfl (Or.inl dd_1) ?_
  refine Z_ifnonnull (tgt := 13) (pc' := 10) dX7_line_7 (by decide) rfl (fun q1 c2 => ?_) (fun c2 => ?_)
  · have P := P.2 q1 c2
    refine Z_iload_n (pc' := 14) dX7_line_13 rfl rfl ?_
    refine Z_iconst (pc' := 15) dX7_line_14 rfl ?_
    refine Z_aload_n (pc' := 16) dX7_line_15 rfl rfl ?_
    refine Z_getR (q := 1) (pc' := 19) dX7_line_16 rfl fX7_10 rfl (Or.inl dd_0) (Or.inl rr_0_0) ?_
    refine Z_getR (q := q1) (pc' := 22) dX7_line_19 rfl fX7_121 rfl (Or.inl dd_1) (Or.inr c2) ?_
    have h3 := P.1
    have P := P.2
    refine Z_getI' (ji := 0) (pc' := 25) dX7_line_22 rfl rfl fX7_149 rfl (Or.inr h3) ?_
    refine Z_iconst (pc' := 26) dX7_line_25 rfl ?_
    refine Z_isub (pc' := 27) dX7_line_26 rfl ?_
    refine Z_callS0 (M' := mX7_isIn) (pc' := 30) (st := []) [vi x1, vi 0, vi ((gI μ q1 0) - 1)] dX7_line_27 rfl sX7_isIn lX7_45 rfl (Nat.le_of_ble_eq_true rfl) (Nat.le_refl 0) (Nat.le_refl 0) ?_
    refine Cl_mono P ?_
    rintro _ μ4 ⟨r5, rfl, P⟩
    show Z SS none mX7_line (d + 1) 0 0 (qI Q) 30 [some (.ref 0), some (vi x1), some (vi x2)] [vi r5] μ4 0 0
    have h6 := P.1
    have P := P.2
    refine Z_if_ne (tgt := 36) (pc' := 33) dX7_line_30 (by decide) rfl h6 (fun c7 => ?_) (fun c7 => ?_)
    · have P := P.2 c7
      refine Z_iload_n (pc' := 37) dX7_line_36 rfl rfl ?_
      refine Z_iconst (pc' := 38) dX7_line_37 rfl ?_
      refine Z_bipush (pc' := 40) dX7_line_38 rfl rfl ?_
      refine Z_callS0 (M' := mX7_isIn) (pc' := 43) (st := []) [vi x2, vi 0, vi 6] dX7_line_40 rfl sX7_isIn lX7_45 rfl (Nat.le_of_ble_eq_true rfl) (Nat.le_refl 0) (Nat.le_refl 0) ?_
      refine Cl_mono P ?_
      rintro _ μ8 ⟨r9, rfl, P⟩
      show Z SS none mX7_line (d + 1) 0 0 (qI Q) 43 [some (.ref 0), some (vi x1), some (vi x2)] [vi r9] μ8 0 0
      have h10 := P.1
      have P := P.2
      refine Z_if_ne (tgt := 49) (pc' := 46) dX7_line_43 (by decide) rfl h10 (fun c11 => ?_) (fun c11 => ?_)
      · have P := P.2 c11
        refine Z_aload_n (pc' := 50) dX7_line_49 rfl rfl ?_
        refine Z_getR (q := 1) (pc' := 53) dX7_line_50 rfl fX7_10 rfl (Or.inl dd_0) (Or.inl rr_0_0) ?_
        obtain ⟨q12, h13, P⟩ := P
        refine Z_getR (q := q12) (pc' := 56) dX7_line_53 rfl fX7_121 rfl (Or.inl dd_1) (Or.inr h13) ?_
        have h14 := P.1
        have P := P.2
        have h15 := P.1
        have P := P.2
        refine Z_getR (q := q12 + 2) (pc' := 59) dX7_line_56 rfl fX7_152 rfl (Or.inr h14) (Or.inr h15) ?_
        refine Z_iload_n (pc' := 60) dX7_line_59 rfl rfl ?_
        refine Z_bipush (pc' := 62) dX7_line_60 rfl rfl ?_
        refine Z_imul (pc' := 63) dX7_line_62 rfl ?_
        refine Z_iload_n (pc' := 64) dX7_line_63 rfl rfl ?_
        refine Z_iadd (pc' := 65) dX7_line_64 rfl ?_
        have h16 := P.1
        have P := P.2
        refine Z_ialoadA (pc' := 66) dX7_line_65 rfl h16 ?_
        exact Z_ireturn dX7_line_66 rfl (Nat.le_refl 0) (Nat.le_refl 0) P
      · have P := P.1 c11
        refine Z_bipush (pc' := 48) dX7_line_46 rfl rfl ?_
        exact Z_ireturn dX7_line_48 rfl (Nat.le_refl 0) (Nat.le_refl 0) P
    · have P := P.1 c7
      refine Z_bipush (pc' := 35) dX7_line_33 rfl rfl ?_
      exact Z_ireturn dX7_line_35 rfl (Nat.le_refl 0) (Nat.le_refl 0) P
  · have P := P.1 c2
    refine Z_bipush (pc' := 12) dX7_line_10 rfl rfl ?_
    exact Z_ireturn dX7_line_12 rfl (Nat.le_refl 0) (Nat.le_refl 0) P
theorem bX7_placed {d : Nat} {Q : Int → zMem → Prop} {μ : zMem} {x1 : Int} {x2 : Int} (P : (gR μ 1 4 = none → (Q (-4) μ)) ∧ (∀ q1 : Nat, gR μ 1 4 = some q1 → (((gD μ)[q1]? = some (2, 0)) ∧ (kX7_isIn d x1 0 ((gI μ q1 1) - 1) μ (fun (r5 : Int) (μ4 : zMem) => (zIn r5) ∧ ((r5 = 0 → (Q (-2) μ4)) ∧ (¬ (r5 = 0) → (kX7_isIn d x2 0 4 μ4 (fun (r9 : Int) (μ8 : zMem) => (zIn r9) ∧ ((r9 = 0 → (Q (-3) μ8)) ∧ (¬ (r9 = 0) → (∃ q12 : Nat, (gR μ8 1 4 = some q12) ∧ (((gD μ8)[q12]? = some (2, 0)) ∧ ((gR μ8 q12 4 = some (q12 + 3)) ∧ ((zA μ8 (q12 + 3) ((x1 * 5) + x2)) ∧ (Q (gI μ8 (q12 + 3) ((x1 * 5) + x2)) μ8)))))))))))))))) : kX7_placed (d + 1) x1 x2 μ Q := by
  refine Cl_of rfl (Nat.le_of_ble_eq_true rfl) rfl ?_
  show Z SS none mX7_placed (d + 1) 0 0 (qI Q) 0 [some (.ref 0), some (vi x1), some (vi x2)] [] μ 0 0
  refine Z_aload_n (pc' := 1) dX7_placed_0 rfl rfl ?_
  refine Z_getR (q := 1) (pc' := 4) dX7_placed_1 rfl fX7_10 rfl (Or.inl dd_0) (Or.inl rr_0_0) ?_
  refine Z_getO' (ji := 4) (pc' := 7) dX7_placed_4 rfl rfl fX7_121 rfl (Or.inl dd_1) ?_
  refine Z_ifnonnull (tgt := 13) (pc' := 10) dX7_placed_7 (by decide) rfl (fun q1 c2 => ?_) (fun c2 => ?_)
  · have P := P.2 q1 c2
    refine Z_iload_n (pc' := 14) dX7_placed_13 rfl rfl ?_
    refine Z_iconst (pc' := 15) dX7_placed_14 rfl ?_
    refine Z_aload_n (pc' := 16) dX7_placed_15 rfl rfl ?_
    refine Z_getR (q := 1) (pc' := 19) dX7_placed_16 rfl fX7_10 rfl (Or.inl dd_0) (Or.inl rr_0_0) ?_
    refine Z_getR (q := q1) (pc' := 22) dX7_placed_19 rfl fX7_121 rfl (Or.inl dd_1) (Or.inr c2) ?_
    have h3 := P.1
    have P := P.2
    refine Z_getI' (ji := 1) (pc' := 25) dX7_placed_22 rfl rfl fX7_155 rfl (Or.inr h3) ?_
    refine Z_iconst (pc' := 26) dX7_placed_25 rfl ?_
    refine Z_isub (pc' := 27) dX7_placed_26 rfl ?_
    refine Z_callS0 (M' := mX7_isIn) (pc' := 30) (st := []) [vi x1, vi 0, vi ((gI μ q1 1) - 1)] dX7_placed_27 rfl sX7_isIn lX7_45 rfl (Nat.le_of_ble_eq_true rfl) (Nat.le_refl 0) (Nat.le_refl 0) ?_
    refine Cl_mono P ?_
    rintro _ μ4 ⟨r5, rfl, P⟩
    show Z SS none mX7_placed (d + 1) 0 0 (qI Q) 30 [some (.ref 0), some (vi x1), some (vi x2)] [vi r5] μ4 0 0
    have h6 := P.1
    have P := P.2
    refine Z_if_ne (tgt := 36) (pc' := 33) dX7_placed_30 (by decide) rfl h6 (fun c7 => ?_) (fun c7 => ?_)
    · have P := P.2 c7
      refine Z_iload_n (pc' := 37) dX7_placed_36 rfl rfl ?_
      refine Z_iconst (pc' := 38) dX7_placed_37 rfl ?_
      refine Z_iconst (pc' := 39) dX7_placed_38 rfl ?_
      refine Z_callS0 (M' := mX7_isIn) (pc' := 42) (st := []) [vi x2, vi 0, vi 4] dX7_placed_39 rfl sX7_isIn lX7_45 rfl (Nat.le_of_ble_eq_true rfl) (Nat.le_refl 0) (Nat.le_refl 0) ?_
      refine Cl_mono P ?_
      rintro _ μ8 ⟨r9, rfl, P⟩
      show Z SS none mX7_placed (d + 1) 0 0 (qI Q) 42 [some (.ref 0), some (vi x1), some (vi x2)] [vi r9] μ8 0 0
      have h10 := P.1
      have P := P.2
      refine Z_if_ne (tgt := 48) (pc' := 45) dX7_placed_42 (by decide) rfl h10 (fun c11 => ?_) (fun c11 => ?_)
      · have P := P.2 c11
        refine Z_aload_n (pc' := 49) dX7_placed_48 rfl rfl ?_
        refine Z_getR (q := 1) (pc' := 52) dX7_placed_49 rfl fX7_10 rfl (Or.inl dd_0) (Or.inl rr_0_0) ?_
        obtain ⟨q12, h13, P⟩ := P
        refine Z_getR (q := q12) (pc' := 55) dX7_placed_52 rfl fX7_121 rfl (Or.inl dd_1) (Or.inr h13) ?_
        have h14 := P.1
        have P := P.2
        have h15 := P.1
        have P := P.2
        refine Z_getR (q := q12 + 3) (pc' := 58) dX7_placed_55 rfl fX7_156 rfl (Or.inr h14) (Or.inr h15) ?_
        refine Z_iload_n (pc' := 59) dX7_placed_58 rfl rfl ?_
        refine Z_iconst (pc' := 60) dX7_placed_59 rfl ?_
        refine Z_imul (pc' := 61) dX7_placed_60 rfl ?_
        refine Z_iload_n (pc' := 62) dX7_placed_61 rfl rfl ?_
        refine Z_iadd (pc' := 63) dX7_placed_62 rfl ?_
        have h16 := P.1
        have P := P.2
        refine Z_ialoadA (pc' := 64) dX7_placed_63 rfl h16 ?_
        exact Z_ireturn dX7_placed_64 rfl (Nat.le_refl 0) (Nat.le_refl 0) P
      · have P := P.1 c11
        refine Z_bipush (pc' := 47) dX7_placed_45 rfl rfl ?_
        exact Z_ireturn dX7_placed_47 rfl (Nat.le_refl 0) (Nat.le_refl 0) P
    · have P := P.1 c7
      refine Z_bipush (pc' := 35) dX7_placed_33 rfl rfl ?_
      exact Z_ireturn dX7_placed_35 rfl (Nat.le_refl 0) (Nat.le_refl 0) P
  · have P := P.1 c2
    refine Z_bipush (pc' := 12) dX7_placed_10 rfl rfl ?_
    exact Z_ireturn dX7_placed_12 rfl (Nat.le_refl 0) (Nat.le_refl 0) P
theorem bX7_type {d : Nat} {Q : Int → zMem → Prop} {μ : zMem} {x1 : Int} (P : kX7_isIn d x1 0 255 μ (fun (r2 : Int) (μ1 : zMem) => (zIn r2) ∧ ((r2 = 0 → (Q (-3) μ1)) ∧ (¬ (r2 = 0) → ((zIn (gI μ1 0 4)) ∧ (((gI μ1 0 4) < 80 → ((0 ≤ (gI μ1 0 4)) ∧ (Q (gI (sI (sI μ1 8 (gI μ1 0 4) x1) 0 4 ((gI (sI μ1 8 (gI μ1 0 4) x1) 0 4) + 1)) 0 4) (sI (sI μ1 8 (gI μ1 0 4) x1) 0 4 ((gI (sI μ1 8 (gI μ1 0 4) x1) 0 4) + 1))))) ∧ (¬ ((gI μ1 0 4) < 80) → (Q (-5) μ1)))))))) : kX7_type (d + 1) x1 μ Q := by
  refine Cl_of rfl (Nat.le_of_ble_eq_true rfl) rfl ?_
  show Z SS none mX7_type (d + 1) 0 0 (qI Q) 0 [some (.ref 0), some (vi x1)] [] μ 0 0
  refine Z_iload_n (pc' := 1) dX7_type_0 rfl rfl ?_
  refine Z_iconst (pc' := 2) dX7_type_1 rfl ?_
  refine Z_sipush (pc' := 5) dX7_type_2 rfl rfl ?_
  refine Z_callS0 (M' := mX7_isIn) (pc' := 8) (st := []) [vi x1, vi 0, vi 255] dX7_type_5 rfl sX7_isIn lX7_45 rfl (Nat.le_of_ble_eq_true rfl) (Nat.le_refl 0) (Nat.le_refl 0) ?_
  refine Cl_mono P ?_
  rintro _ μ1 ⟨r2, rfl, P⟩
  show Z SS none mX7_type (d + 1) 0 0 (qI Q) 8 [some (.ref 0), some (vi x1)] [vi r2] μ1 0 0
  have h3 := P.1
  have P := P.2
  refine Z_if_ne (tgt := 14) (pc' := 11) dX7_type_8 (by decide) rfl h3 (fun c4 => ?_) (fun c4 => ?_)
  · have P := P.2 c4
    refine Z_aload_n (pc' := 15) dX7_type_14 rfl rfl ?_
    refine Z_getI' (ji := 4) (pc' := 18) dX7_type_15 rfl rfl fX7_28 rfl (Or.inl dd_0) ?_
    refine Z_bipush (pc' := 20) dX7_type_18 rfl rfl ?_
    have h5 := P.1
    have P := P.2
    refine Z_icmp_lt (tgt := 26) (pc' := 23) dX7_type_20 (by decide) rfl h5 (z_lit rfl) (fun c6 => ?_) (fun c6 => ?_)
    · have P := P.1 c6
      refine Z_aload_n (pc' := 27) dX7_type_26 rfl rfl ?_
      refine Z_getR (q := 8) (pc' := 30) dX7_type_27 rfl fX7_24 rfl (Or.inl dd_0) (Or.inl rr_0_3) ?_
      refine Z_aload_n (pc' := 31) dX7_type_30 rfl rfl ?_
      refine Z_getI' (ji := 4) (pc' := 34) dX7_type_31 rfl rfl fX7_28 rfl (Or.inl dd_0) ?_
      refine Z_iload_n (pc' := 35) dX7_type_34 rfl rfl ?_
      have h7 := P.1
      have P := P.2
      refine Z_iastore (pc' := 36) dX7_type_35 rfl (Or.inl dd_8) (Nat.le_of_ble_eq_true rfl) h7 c6 ?_
      refine Z_aload_n (pc' := 37) dX7_type_36 rfl rfl ?_
      refine Z_dup (pc' := 38) dX7_type_37 rfl rfl ?_
      refine Z_getI' (ji := 4) (pc' := 41) dX7_type_38 rfl rfl fX7_28 rfl (Or.inl dd_0) ?_
      refine Z_iconst (pc' := 42) dX7_type_41 rfl ?_
      refine Z_iadd (pc' := 43) dX7_type_42 rfl ?_
      refine Z_putI' (ji := 4) (pc' := 46) dX7_type_43 rfl rfl fX7_28 (Or.inl rfl) rfl (Or.inl dd_0) ?_
      refine Z_aload_n (pc' := 47) dX7_type_46 rfl rfl ?_
      refine Z_getI' (ji := 4) (pc' := 50) dX7_type_47 rfl rfl fX7_28 rfl (Or.inl dd_0) ?_
      exact Z_ireturn dX7_type_50 rfl (Nat.le_refl 0) (Nat.le_refl 0) P
    · have P := P.2 c6
      refine Z_bipush (pc' := 25) dX7_type_23 rfl rfl ?_
      exact Z_ireturn dX7_type_25 rfl (Nat.le_refl 0) (Nat.le_refl 0) P
  · have P := P.1 c4
    refine Z_bipush (pc' := 13) dX7_type_11 rfl rfl ?_
    exact Z_ireturn dX7_type_13 rfl (Nat.le_refl 0) (Nat.le_refl 0) P
theorem bX7_clearText {d : Nat} {Q : Int → zMem → Prop} {μ : zMem}  (P : Q (gI μ 0 4) (sI μ 0 4 0)) : kX7_clearText d μ Q := by
  refine Cl_of rfl (Nat.le_of_ble_eq_true rfl) rfl ?_
  show Z SS none mX7_clearText d 0 0 (qI Q) 0 [some (.ref 0), none] [] μ 0 0
  refine Z_aload_n (pc' := 1) dX7_clearText_0 rfl rfl ?_
  refine Z_getI' (ji := 4) (pc' := 4) dX7_clearText_1 rfl rfl fX7_28 rfl (Or.inl dd_0) ?_
  refine Z_istore_n (pc' := 5) (lo' := [some (.ref 0), some (vi (gI μ 0 4))]) dX7_clearText_4 rfl (by decide) rfl ?_
  refine Z_aload_n (pc' := 6) dX7_clearText_5 rfl rfl ?_
  refine Z_iconst (pc' := 7) dX7_clearText_6 rfl ?_
  refine Z_putI' (ji := 4) (pc' := 10) dX7_clearText_7 rfl rfl fX7_28 (Or.inl rfl) rfl (Or.inl dd_0) ?_
  refine Z_iload_n (pc' := 11) dX7_clearText_10 rfl rfl ?_
  exact Z_ireturn dX7_clearText_11 rfl (Nat.le_refl 0) (Nat.le_refl 0) P
theorem bX7_textFault {d : Nat} {Q : Int → zMem → Prop} {μ : zMem}  (P : kX6_read d (gI μ 0 4) μ (fun (r2 : Int) (μ1 : zMem) => Q r2 μ1)) : kX7_textFault (d + 1) μ Q := by
  refine Cl_of rfl (Nat.le_of_ble_eq_true rfl) rfl ?_
  show Z SS none mX7_textFault (d + 1) 0 0 (qI Q) 0 [some (.ref 0)] [] μ 0 0
  refine Z_aload_n (pc' := 1) dX7_textFault_0 rfl rfl ?_
  refine Z_getR (q := 9) (pc' := 4) dX7_textFault_1 rfl fX7_34 rfl (Or.inl dd_0) (Or.inl rr_0_5) ?_
  refine Z_aload_n (pc' := 5) dX7_textFault_4 rfl rfl ?_
  refine Z_getR (q := 8) (pc' := 8) dX7_textFault_5 rfl fX7_24 rfl (Or.inl dd_0) (Or.inl rr_0_3) ?_
  refine Z_aload_n (pc' := 9) dX7_textFault_8 rfl rfl ?_
  refine Z_getI' (ji := 4) (pc' := 12) dX7_textFault_9 rfl rfl fX7_28 rfl (Or.inl dd_0) ?_
  refine Z_callV0 (M' := mX6_read) (pc' := 15) (st := []) [.ref 8, vi (gI μ 0 4)] dX7_textFault_12 rfl vX6_read lX7_159 (Or.inl dd_9) rfl (Nat.le_of_ble_eq_true rfl) (Nat.le_refl 0) (Nat.le_refl 0) ?_
  refine Cl_mono P ?_
  rintro _ μ1 ⟨r2, rfl, P⟩
  show Z SS none mX7_textFault (d + 1) 0 0 (qI Q) 15 [some (.ref 0)] [vi r2] μ1 0 0
  exact Z_ireturn dX7_textFault_15 rfl (Nat.le_refl 0) (Nat.le_refl 0) P
theorem bX7_load {d : Nat} {Q : Int → zMem → Prop} {μ : zMem}  (P : kX6_read d (gI μ 0 4) μ (fun (r2 : Int) (μ1 : zMem) => (zIn r2) ∧ ((r2 = (-1) → (kX7_remember d μ1 (fun μ5 : zMem => (0 ≤ ((42 : Nat) : Int)) ∧ ((0 + ((42 : Nat) : Int) ≤ 42) ∧ (Q (gI (cI (sI μ5 1 1 (gI μ5 9 0)) 10 0 5 0 ((42 : Nat) : Int)) 1 1) (cI (sI μ5 1 1 (gI μ5 9 0)) 10 0 5 0 ((42 : Nat) : Int))))))) ∧ (¬ (r2 = (-1)) → (Q (-4) μ1))))) : kX7_load (d + 1) μ Q := by
  refine Cl_of rfl (Nat.le_of_ble_eq_true rfl) rfl ?_
  show Z SS none mX7_load (d + 1) 0 0 (qI Q) 0 [some (.ref 0)] [] μ 0 0
  refine Z_aload_n (pc' := 1) dX7_load_0 rfl rfl ?_
  refine Z_getR (q := 9) (pc' := 4) dX7_load_1 rfl fX7_34 rfl (Or.inl dd_0) (Or.inl rr_0_5) ?_
  refine Z_aload_n (pc' := 5) dX7_load_4 rfl rfl ?_
  refine Z_getR (q := 8) (pc' := 8) dX7_load_5 rfl fX7_24 rfl (Or.inl dd_0) (Or.inl rr_0_3) ?_
  refine Z_aload_n (pc' := 9) dX7_load_8 rfl rfl ?_
  refine Z_getI' (ji := 4) (pc' := 12) dX7_load_9 rfl rfl fX7_28 rfl (Or.inl dd_0) ?_
  refine Z_callV0 (M' := mX6_read) (pc' := 15) (st := []) [.ref 8, vi (gI μ 0 4)] dX7_load_12 rfl vX6_read lX7_159 (Or.inl dd_9) rfl (Nat.le_of_ble_eq_true rfl) (Nat.le_refl 0) (Nat.le_refl 0) ?_
  refine Cl_mono P ?_
  rintro _ μ1 ⟨r2, rfl, P⟩
  show Z SS none mX7_load (d + 1) 0 0 (qI Q) 15 [some (.ref 0)] [vi r2] μ1 0 0
  refine Z_iconst (pc' := 16) dX7_load_15 rfl ?_
  have h3 := P.1
  have P := P.2
  refine Z_icmp_eq (tgt := 22) (pc' := 19) dX7_load_16 (by decide) rfl h3 (z_lit rfl) (fun c4 => ?_) (fun c4 => ?_)
  · have P := P.1 c4
    refine Z_aload_n (pc' := 23) dX7_load_22 rfl rfl ?_
    refine Z_callV0 (M' := mX7_remember) (pc' := 26) (st := []) [] dX7_load_23 rfl vX7_remember lX7_62 (Or.inl dd_0) rfl (Nat.le_of_ble_eq_true rfl) (Nat.le_refl 0) (Nat.le_refl 0) ?_
    refine Cl_mono P ?_
    rintro _ μ5 ⟨rfl, P⟩
    show Z SS none mX7_load (d + 1) 0 0 (qI Q) 26 [some (.ref 0)] [] μ5 0 0
    refine Z_aload_n (pc' := 27) dX7_load_26 rfl rfl ?_
    refine Z_getR (q := 1) (pc' := 30) dX7_load_27 rfl fX7_10 rfl (Or.inl dd_0) (Or.inl rr_0_0) ?_
    refine Z_aload_n (pc' := 31) dX7_load_30 rfl rfl ?_
    refine Z_getR (q := 9) (pc' := 34) dX7_load_31 rfl fX7_34 rfl (Or.inl dd_0) (Or.inl rr_0_5) ?_
    refine Z_getI' (ji := 0) (pc' := 37) dX7_load_34 rfl rfl fX7_163 rfl (Or.inl dd_9) ?_
    refine Z_putI' (ji := 1) (pc' := 40) dX7_load_37 rfl rfl fX7_108 (Or.inl rfl) rfl (Or.inl dd_1) ?_
    refine Z_aload_n (pc' := 41) dX7_load_40 rfl rfl ?_
    refine Z_getR (q := 9) (pc' := 44) dX7_load_41 rfl fX7_34 rfl (Or.inl dd_0) (Or.inl rr_0_5) ?_
    refine Z_getR (q := 10) (pc' := 47) dX7_load_44 rfl fX7_164 rfl (Or.inl dd_9) (Or.inl rr_9_1) ?_
    refine Z_iconst (pc' := 48) dX7_load_47 rfl ?_
    refine Z_aload_n (pc' := 49) dX7_load_48 rfl rfl ?_
    refine Z_getR (q := 1) (pc' := 52) dX7_load_49 rfl fX7_10 rfl (Or.inl dd_0) (Or.inl rr_0_0) ?_
    refine Z_getR (q := 5) (pc' := 55) dX7_load_52 rfl fX7_165 rfl (Or.inl dd_1) (Or.inl rr_1_2) ?_
    refine Z_iconst (pc' := 56) dX7_load_55 rfl ?_
    refine Z_aload_n (pc' := 57) dX7_load_56 rfl rfl ?_
    refine Z_getR (q := 1) (pc' := 60) dX7_load_57 rfl fX7_10 rfl (Or.inl dd_0) (Or.inl rr_0_0) ?_
    refine Z_getR (q := 5) (pc' := 63) dX7_load_60 rfl fX7_165 rfl (Or.inl dd_1) (Or.inl rr_1_2) ?_
    refine Z_alen (pc' := 64) dX7_load_63 rfl (Or.inl dd_5) (Or.inl rfl) ?_
    have h6 := P.1
    have P := P.2
    have h7 := P.1
    have P := P.2
    refine Z_copyI (pc' := 67) dX7_load_64 rfl lX7_166 (Or.inl dd_10) (Or.inl dd_5) (Nat.le_of_ble_eq_true rfl) (Nat.le_of_ble_eq_true rfl) (by decide) (by decide) h6 h7 h7 (Nat.le_of_ble_eq_true rfl) ?_
    refine Z_aload_n (pc' := 68) dX7_load_67 rfl rfl ?_
    refine Z_getR (q := 1) (pc' := 71) dX7_load_68 rfl fX7_10 rfl (Or.inl dd_0) (Or.inl rr_0_0) ?_
    refine Z_getI' (ji := 1) (pc' := 74) dX7_load_71 rfl rfl fX7_108 rfl (Or.inl dd_1) ?_
    exact Z_ireturn dX7_load_74 rfl (Nat.le_refl 0) (Nat.le_refl 0) P
  · have P := P.2 c4
    refine Z_bipush (pc' := 21) dX7_load_19 rfl rfl ?_
    exact Z_ireturn dX7_load_21 rfl (Nat.le_refl 0) (Nat.le_refl 0) P
theorem bX7_undo {d : Nat} {Q : Int → zMem → Prop} {μ : zMem}  (P : (zIn (gI μ 0 2)) ∧ ((0 < (gI μ 0 2) → ((0 ≤ (gI (sI μ 0 2 ((gI μ 0 2) - 1)) 0 2)) ∧ (((gI (sI μ 0 2 ((gI μ 0 2) - 1)) 0 2) < 4) ∧ (∃ q3 : Nat, (gR (sI μ 0 2 ((gI μ 0 2) - 1)) 7 (gI (sI μ 0 2 ((gI μ 0 2) - 1)) 0 2) = some q3) ∧ ((isSt q3) ∧ (kX5_copyFrom d 1 q3 (sI μ 0 2 ((gI μ 0 2) - 1)) (fun μ8 : zMem => Q (gI μ8 0 2) μ8))))))) ∧ (¬ (0 < (gI μ 0 2)) → (Q (-4) μ)))) : kX7_undo (d + 1) μ Q := by
  refine Cl_of rfl (Nat.le_of_ble_eq_true rfl) rfl ?_
  show Z SS none mX7_undo (d + 1) 0 0 (qI Q) 0 [some (.ref 0)] [] μ 0 0
  refine Z_aload_n (pc' := 1) dX7_undo_0 rfl rfl ?_
  refine Z_getI' (ji := 2) (pc' := 4) dX7_undo_1 rfl rfl fX7_20 rfl (Or.inl dd_0) ?_
  have h1 := P.1
  have P := P.2
  refine Z_if_gt (tgt := 10) (pc' := 7) dX7_undo_4 (by decide) rfl h1 (fun c2 => ?_) (fun c2 => ?_)
  · have P := P.1 c2
    refine Z_aload_n (pc' := 11) dX7_undo_10 rfl rfl ?_
    refine Z_dup (pc' := 12) dX7_undo_11 rfl rfl ?_
    refine Z_getI' (ji := 2) (pc' := 15) dX7_undo_12 rfl rfl fX7_20 rfl (Or.inl dd_0) ?_
    refine Z_iconst (pc' := 16) dX7_undo_15 rfl ?_
    refine Z_isub (pc' := 17) dX7_undo_16 rfl ?_
    refine Z_putI' (ji := 2) (pc' := 20) dX7_undo_17 rfl rfl fX7_20 (Or.inl rfl) rfl (Or.inl dd_0) ?_
    refine Z_aload_n (pc' := 21) dX7_undo_20 rfl rfl ?_
    refine Z_getR (q := 1) (pc' := 24) dX7_undo_21 rfl fX7_10 rfl (Or.inl dd_0) (Or.inl rr_0_0) ?_
    refine Z_aload_n (pc' := 25) dX7_undo_24 rfl rfl ?_
    refine Z_getR (q := 7) (pc' := 28) dX7_undo_25 rfl fX7_16 rfl (Or.inl dd_0) (Or.inl rr_0_1) ?_
    refine Z_aload_n (pc' := 29) dX7_undo_28 rfl rfl ?_
    refine Z_getI' (ji := 2) (pc' := 32) dX7_undo_29 rfl rfl fX7_20 rfl (Or.inl dd_0) ?_
    have h5 := P.1
    have P := P.2
    have h6 := P.1
    have P := P.2
    obtain ⟨q3, h4, P⟩ := P
    have h7 := P.1
    have P := P.2
    refine Z_aaload (pc' := 33) dX7_undo_32 rfl (Or.inl dd_7) (Nat.le_of_ble_eq_true rfl) h5 h6 h4 ?_
    refine Z_callV0 (M' := mX5_copyFrom) (pc' := 36) (st := []) [.ref q3] dX7_undo_33 rfl vX5_copyFrom lX7_172 (Or.inl dd_1) rfl (Nat.le_of_ble_eq_true rfl) (Nat.le_refl 0) (Nat.le_refl 0) ?_
    refine Cl_mono P ?_
    rintro _ μ8 ⟨rfl, P⟩
    show Z SS none mX7_undo (d + 1) 0 0 (qI Q) 36 [some (.ref 0)] [] μ8 0 0
    refine Z_aload_n (pc' := 37) dX7_undo_36 rfl rfl ?_
    refine Z_getI' (ji := 2) (pc' := 40) dX7_undo_37 rfl rfl fX7_20 rfl (Or.inl dd_0) ?_
    exact Z_ireturn dX7_undo_40 rfl (Nat.le_refl 0) (Nat.le_refl 0) P
  · have P := P.2 c2
    refine Z_bipush (pc' := 9) dX7_undo_7 rfl rfl ?_
    exact Z_ireturn dX7_undo_9 rfl (Nat.le_refl 0) (Nat.le_refl 0) P
abbrev zX7_addAll_6 (d : Nat) (Q : Int64 → zMem → Prop) (p2 : Nat) (x3 : Int) (y4 : Int64) (x6 : Int) (μ : zMem) : Prop := Z SS none mX7_addAll d 0 0 (qL Q) 6 [none, none, some (.ref p2), some (vi x3), some (.long (y4)), none, some (vi x6)] [] μ 0 0
theorem bX7_addAll {d : Nat} {Q : Int64 → zMem → Prop} {μ : zMem} {y0 : Int64} {p2 : Nat} {x3 : Int} {n2 : Nat} (hn2 : (gD μ)[p2]? = some (9, n2)) (hm2 : n2 ≤ 2147483647) (P : zX7_addAll_6 d Q p2 x3 y0 0 μ) : kX7_addAll d y0 p2 x3 μ Q := by
  refine Cl_of rfl (Nat.le_of_ble_eq_true rfl) rfl ?_
  show Z SS none mX7_addAll d 0 0 (qL Q) 0 [some (.long (y0)), none, some (.ref p2), some (vi x3), none, none, none] [] μ 0 0
  refine Z_lload_n (pc' := 1) dX7_addAll_0 rfl rfl ?_
  refine Z_lstore (pc' := 3) (lo' := [some (.long (y0)), none, some (.ref p2), some (vi x3), some (.long (y0)), none, none]) dX7_addAll_1 rfl (by decide) rfl ?_
  refine Z_iconst (pc' := 4) dX7_addAll_3 rfl ?_
  refine Z_istore (pc' := 6) (lo' := [some (.long (y0)), none, some (.ref p2), some (vi x3), some (.long (y0)), none, some (vi 0)]) dX7_addAll_4 rfl (by decide) rfl ?_
  refine Z_wk [false, true, true, true, true, true, true] rfl ?_
  exact P
theorem bX7_addAll_6 {d : Nat} {Q : Int64 → zMem → Prop} {μ : zMem} {p2 : Nat} {x3 : Int} {y4 : Int64} {x6 : Int} {n2 : Nat} (hn2 : (gD μ)[p2]? = some (9, n2)) (hm2 : n2 ≤ 2147483647) (P : (zIn x6) ∧ ((zIn x3) ∧ ((x3 ≤ x6 → (Q y4 μ)) ∧ (¬ (x3 ≤ x6) → (∃ n4 : Nat, ((gD μ)[p2]? = some (9, n4)) ∧ ((zIn (n4 : Int)) ∧ (((n4 : Int) ≤ x6 → (Q y4 μ)) ∧ (¬ ((n4 : Int) ≤ x6) → ((0 ≤ x6) ∧ ((x6 < n2) ∧ (zX7_addAll_6 d Q p2 x3 (((31 : Int64) * y4) + (Int32.ofInt (gI μ p2 x6)).toInt64) (x6 + 1) μ))))))))))) : zX7_addAll_6 d Q p2 x3 y4 x6 μ := by
  refine Z_iload (pc' := 8) dX7_addAll_6 rfl rfl ?_
  refine Z_iload_n (pc' := 9) dX7_addAll_8 rfl rfl ?_
  have h1 := P.1
  have P := P.2
  have h2 := P.1
  have P := P.2
  refine Z_icmp_ge (tgt := 39) (pc' := 12) dX7_addAll_9 (by decide) rfl h1 h2 (fun c3 => ?_) (fun c3 => ?_)
  · have P := P.1 c3
    refine Z_lload (pc' := 41) dX7_addAll_39 rfl rfl ?_
    exact Z_lreturn dX7_addAll_41 rfl (Nat.le_refl 0) (Nat.le_refl 0) P
  · have P := P.2 c3
    refine Z_iload (pc' := 14) dX7_addAll_12 rfl rfl ?_
    refine Z_aload_n (pc' := 15) dX7_addAll_14 rfl rfl ?_
    obtain ⟨n4, h5, P⟩ := P
    refine Z_alen (pc' := 16) dX7_addAll_15 rfl (Or.inr h5) (Or.inl rfl) ?_
    have h6 := P.1
    have P := P.2
    refine Z_icmp_ge (tgt := 39) (pc' := 19) dX7_addAll_16 (by decide) rfl h1 h6 (fun c7 => ?_) (fun c7 => ?_)
    · have P := P.1 c7
      refine Z_lload (pc' := 41) dX7_addAll_39 rfl rfl ?_
      exact Z_lreturn dX7_addAll_41 rfl (Nat.le_refl 0) (Nat.le_refl 0) P
    · have P := P.2 c7
      refine Z_ldc2 (pc' := 22) dX7_addAll_19 rfl kX7_178 ?_
      refine Z_lload (pc' := 24) dX7_addAll_22 rfl rfl ?_
      refine Z_lmul (pc' := 25) dX7_addAll_24 rfl ?_
      refine Z_aload_n (pc' := 26) dX7_addAll_25 rfl rfl ?_
      refine Z_iload (pc' := 28) dX7_addAll_26 rfl rfl ?_
      have h8 := P.1
      have P := P.2
      have h9 := P.1
      have P := P.2
      refine Z_iaload (pc' := 29) dX7_addAll_28 rfl (Or.inr hn2) hm2 h8 h9 ?_
      refine Z_i2l (pc' := 30) dX7_addAll_29 rfl ?_
      refine Z_ladd (pc' := 31) dX7_addAll_30 rfl ?_
      refine Z_lstore (pc' := 33) (lo' := [none, none, some (.ref p2), some (vi x3), some (.long ((((31 : Int64) * y4) + (Int32.ofInt (gI μ p2 x6)).toInt64))), none, some (vi x6)]) dX7_addAll_31 rfl (by decide) rfl ?_
      refine Z_iinc (pc' := 36) (lo' := [none, none, some (.ref p2), some (vi x3), some (.long ((((31 : Int64) * y4) + (Int32.ofInt (gI μ p2 x6)).toInt64))), none, some (vi (x6 + 1))]) dX7_addAll_33 rfl (by decide) rfl rfl ?_
      refine Z_goto (tgt := 6) dX7_addAll_36 (by decide) ?_
      exact P
abbrev zX7_digest_6 (d : Nat) (Q : Int64 → zMem → Prop) (y1 : Int64) (x3 : Int) (μ : zMem) : Prop := Z SS none mX7_digest (d + 1) 0 0 (qL Q) 6 [some (.ref 0), some (.long (y1)), none, some (vi x3)] [] μ 0 0
abbrev zX7_digest_33 (d : Nat) (Q : Int64 → zMem → Prop) (y1 : Int64) (x3 : Int) (μ : zMem) : Prop := Z SS none mX7_digest (d + 1) 0 0 (qL Q) 33 [some (.ref 0), some (.long (y1)), none, some (vi x3)] [] μ 0 0
theorem bX7_digest {d : Nat} {Q : Int64 → zMem → Prop} {μ : zMem}  (P : zX7_digest_6 d Q (23 : Int64) 0 μ) : kX7_digest (d + 1) μ Q := by
  refine Cl_of rfl (Nat.le_of_ble_eq_true rfl) rfl ?_
  show Z SS none mX7_digest (d + 1) 0 0 (qL Q) 0 [some (.ref 0), none, none, none] [] μ 0 0
  refine Z_ldc2 (pc' := 3) dX7_digest_0 rfl kX7_176 ?_
  refine Z_lstore_n (pc' := 4) (lo' := [some (.ref 0), some (.long ((23 : Int64))), none, none]) dX7_digest_3 rfl (by decide) rfl ?_
  refine Z_iconst (pc' := 5) dX7_digest_4 rfl ?_
  refine Z_istore_n (pc' := 6) (lo' := [some (.ref 0), some (.long ((23 : Int64))), none, some (vi 0)]) dX7_digest_5 rfl (by decide) rfl ?_
  exact P
theorem bX7_digest_6 {d : Nat} {Q : Int64 → zMem → Prop} {μ : zMem} {y1 : Int64} {x3 : Int} (P : (zIn x3) ∧ ((11 < x3 → (zX7_digest_33 d Q y1 0 μ)) ∧ (¬ (11 < x3) → (kX7_count d x3 μ (fun (r4 : Int) (μ3 : zMem) => zX7_digest_6 d Q (((31 : Int64) * y1) + (Int32.ofInt r4).toInt64) (x3 + 1) μ3))))) : zX7_digest_6 d Q y1 x3 μ := by
  refine Z_iload_n (pc' := 7) dX7_digest_6 rfl rfl ?_
  refine Z_bipush (pc' := 9) dX7_digest_7 rfl rfl ?_
  have h1 := P.1
  have P := P.2
  refine Z_icmp_gt (tgt := 31) (pc' := 12) dX7_digest_9 (by decide) rfl h1 (z_lit rfl) (fun c2 => ?_) (fun c2 => ?_)
  · have P := P.1 c2
    refine Z_iconst (pc' := 32) dX7_digest_31 rfl ?_
    refine Z_istore_n (pc' := 33) (lo' := [some (.ref 0), some (.long (y1)), none, some (vi 0)]) dX7_digest_32 rfl (by decide) rfl ?_
    exact P
  · have P := P.2 c2
    refine Z_ldc2 (pc' := 15) dX7_digest_12 rfl kX7_178 ?_
    refine Z_lload_n (pc' := 16) dX7_digest_15 rfl rfl ?_
    refine Z_lmul (pc' := 17) dX7_digest_16 rfl ?_
    refine Z_aload_n (pc' := 18) dX7_digest_17 rfl rfl ?_
    refine Z_iload_n (pc' := 19) dX7_digest_18 rfl rfl ?_
    refine Z_callV0 (M' := mX7_count) (pc' := 22) (st := [.long (((31 : Int64) * y1))]) [vi x3] dX7_digest_19 rfl vX7_count lX7_180 (Or.inl dd_0) rfl (Nat.le_of_ble_eq_true rfl) (Nat.le_refl 0) (Nat.le_refl 0) ?_
    refine Cl_mono P ?_
    rintro _ μ3 ⟨r4, rfl, P⟩
    show Z SS none mX7_digest (d + 1) 0 0 (qL Q) 22 [some (.ref 0), some (.long (y1)), none, some (vi x3)] [vi r4, .long (((31 : Int64) * y1))] μ3 0 0
    refine Z_i2l (pc' := 23) dX7_digest_22 rfl ?_
    refine Z_ladd (pc' := 24) dX7_digest_23 rfl ?_
    refine Z_lstore_n (pc' := 25) (lo' := [some (.ref 0), some (.long ((((31 : Int64) * y1) + (Int32.ofInt r4).toInt64))), none, some (vi x3)]) dX7_digest_24 rfl (by decide) rfl ?_
    refine Z_iinc (pc' := 28) (lo' := [some (.ref 0), some (.long ((((31 : Int64) * y1) + (Int32.ofInt r4).toInt64))), none, some (vi (x3 + 1))]) dX7_digest_25 rfl (by decide) rfl rfl ?_
    refine Z_goto (tgt := 6) dX7_digest_28 (by decide) ?_
    exact P
theorem bX7_digest_33 {d : Nat} {Q : Int64 → zMem → Prop} {μ : zMem} {y1 : Int64} {x3 : Int} (P : (zIn x3) ∧ ((36 ≤ x3 → (kX7_addAll d y1 5 ((gI μ 1 1) * 3) μ (fun (r4 : Int64) (μ3 : zMem) => (gR μ3 1 4 = none → (Q r4 μ3)) ∧ (∀ q5 : Nat, gR μ3 1 4 = some q5 → (((gD μ3)[q5]? = some (2, 0)) ∧ ((gR μ3 q5 2 = some (q5 + 1)) ∧ (kX7_addAll d r4 (q5 + 1) 5 μ3 (fun (r10 : Int64) (μ9 : zMem) => ∃ q11 : Nat, (gR μ9 1 4 = some q11) ∧ (((gD μ9)[q11]? = some (2, 0)) ∧ ((gR μ9 q11 3 = some (q11 + 2)) ∧ (kX7_addAll d r10 (q11 + 2) ((gI μ9 q11 0) * 7) μ9 (fun (r16 : Int64) (μ15 : zMem) => ∃ q17 : Nat, (gR μ15 1 4 = some q17) ∧ (((gD μ15)[q17]? = some (2, 0)) ∧ ((gR μ15 q17 4 = some (q17 + 3)) ∧ (kX7_addAll d r16 (q17 + 3) ((gI μ15 q17 1) * 5) μ15 (fun (r22 : Int64) (μ21 : zMem) => Q r22 μ21)))))))))))))))) ∧ (¬ (36 ≤ x3) → (kX7_span d x3 1 0 μ (fun (r24 : Int) (μ23 : zMem) => kX7_span d x3 1 1 μ23 (fun (r26 : Int) (μ25 : zMem) => zX7_digest_33 d Q (((31 : Int64) * (((31 : Int64) * y1) + (Int32.ofInt r24).toInt64)) + (Int32.ofInt r26).toInt64) (x3 + 1) μ25)))))) : zX7_digest_33 d Q y1 x3 μ := by
  refine Z_iload_n (pc' := 34) dX7_digest_33 rfl rfl ?_
  refine Z_bipush (pc' := 36) dX7_digest_34 rfl rfl ?_
  have h1 := P.1
  have P := P.2
  refine Z_icmp_ge (tgt := 75) (pc' := 39) dX7_digest_36 (by decide) rfl h1 (z_lit rfl) (fun c2 => ?_) (fun c2 => ?_)
  · have P := P.1 c2
    refine Z_lload_n (pc' := 76) dX7_digest_75 rfl rfl ?_
    refine Z_aload_n (pc' := 77) dX7_digest_76 rfl rfl ?_
    refine Z_getR (q := 1) (pc' := 80) dX7_digest_77 rfl fX7_10 rfl (Or.inl dd_0) (Or.inl rr_0_0) ?_
    refine Z_getR (q := 5) (pc' := 83) dX7_digest_80 rfl fX7_165 rfl (Or.inl dd_1) (Or.inl rr_1_2) ?_
    refine Z_aload_n (pc' := 84) dX7_digest_83 rfl rfl ?_
    refine Z_getR (q := 1) (pc' := 87) dX7_digest_84 rfl fX7_10 rfl (Or.inl dd_0) (Or.inl rr_0_0) ?_
    refine Z_getI' (ji := 1) (pc' := 90) dX7_digest_87 rfl rfl fX7_108 rfl (Or.inl dd_1) ?_
    refine Z_iconst (pc' := 91) dX7_digest_90 rfl ?_
    refine Z_imul (pc' := 92) dX7_digest_91 rfl ?_
    refine Z_callS0 (M' := mX7_addAll) (pc' := 95) (st := []) [.long (y1), .ref 5, vi ((gI μ 1 1) * 3)] dX7_digest_92 rfl sX7_addAll lX7_187 rfl (Nat.le_of_ble_eq_true rfl) (Nat.le_refl 0) (Nat.le_refl 0) ?_
    refine Cl_mono P ?_
    rintro _ μ3 ⟨r4, rfl, P⟩
    show Z SS none mX7_digest (d + 1) 0 0 (qL Q) 95 [some (.ref 0), some (.long (y1)), none, some (vi x3)] [.long (r4)] μ3 0 0
    refine Z_lstore_n (pc' := 96) (lo' := [some (.ref 0), some (.long (r4)), none, some (vi x3)]) dX7_digest_95 rfl (by decide) rfl ?_
    refine Z_aload_n (pc' := 97) dX7_digest_96 rfl rfl ?_
    refine Z_getR (q := 1) (pc' := 100) dX7_digest_97 rfl fX7_10 rfl (Or.inl dd_0) (Or.inl rr_0_0) ?_
    refine Z_getO' (ji := 4) (pc' := 103) dX7_digest_100 rfl rfl fX7_121 rfl (Or.inl dd_1) ?_
    refine Z_ifnull (tgt := 177) (pc' := 106) dX7_digest_103 (by decide) rfl (fun c6 => ?_) (fun q5 c6 => ?_)
    · have P := P.1 c6
      refine Z_lload_n (pc' := 178) dX7_digest_177 rfl rfl ?_
      exact Z_lreturn dX7_digest_178 rfl (Nat.le_refl 0) (Nat.le_refl 0) P
    · have P := P.2 q5 c6
      refine Z_lload_n (pc' := 107) dX7_digest_106 rfl rfl ?_
      refine Z_aload_n (pc' := 108) dX7_digest_107 rfl rfl ?_
      refine Z_getR (q := 1) (pc' := 111) dX7_digest_108 rfl fX7_10 rfl (Or.inl dd_0) (Or.inl rr_0_0) ?_
      refine Z_getR (q := q5) (pc' := 114) dX7_digest_111 rfl fX7_121 rfl (Or.inl dd_1) (Or.inr c6) ?_
      have h7 := P.1
      have P := P.2
      have h8 := P.1
      have P := P.2
      refine Z_getR (q := q5 + 1) (pc' := 117) dX7_digest_114 rfl fX7_144 rfl (Or.inr h7) (Or.inr h8) ?_
      refine Z_iconst (pc' := 118) dX7_digest_117 rfl ?_
      refine Z_callS0 (M' := mX7_addAll) (pc' := 121) (st := []) [.long (r4), .ref (q5 + 1), vi 5] dX7_digest_118 rfl sX7_addAll lX7_187 rfl (Nat.le_of_ble_eq_true rfl) (Nat.le_refl 0) (Nat.le_refl 0) ?_
      refine Cl_mono P ?_
      rintro _ μ9 ⟨r10, rfl, P⟩
      show Z SS none mX7_digest (d + 1) 0 0 (qL Q) 121 [some (.ref 0), some (.long (r4)), none, some (vi x3)] [.long (r10)] μ9 0 0
      refine Z_lstore_n (pc' := 122) (lo' := [some (.ref 0), some (.long (r10)), none, some (vi x3)]) dX7_digest_121 rfl (by decide) rfl ?_
      refine Z_lload_n (pc' := 123) dX7_digest_122 rfl rfl ?_
      refine Z_aload_n (pc' := 124) dX7_digest_123 rfl rfl ?_
      refine Z_getR (q := 1) (pc' := 127) dX7_digest_124 rfl fX7_10 rfl (Or.inl dd_0) (Or.inl rr_0_0) ?_
      obtain ⟨q11, h12, P⟩ := P
      refine Z_getR (q := q11) (pc' := 130) dX7_digest_127 rfl fX7_121 rfl (Or.inl dd_1) (Or.inr h12) ?_
      have h13 := P.1
      have P := P.2
      have h14 := P.1
      have P := P.2
      refine Z_getR (q := q11 + 2) (pc' := 133) dX7_digest_130 rfl fX7_152 rfl (Or.inr h13) (Or.inr h14) ?_
      refine Z_aload_n (pc' := 134) dX7_digest_133 rfl rfl ?_
      refine Z_getR (q := 1) (pc' := 137) dX7_digest_134 rfl fX7_10 rfl (Or.inl dd_0) (Or.inl rr_0_0) ?_
      refine Z_getR (q := q11) (pc' := 140) dX7_digest_137 rfl fX7_121 rfl (Or.inl dd_1) (Or.inr h12) ?_
      refine Z_getI' (ji := 0) (pc' := 143) dX7_digest_140 rfl rfl fX7_149 rfl (Or.inr h13) ?_
      refine Z_bipush (pc' := 145) dX7_digest_143 rfl rfl ?_
      refine Z_imul (pc' := 146) dX7_digest_145 rfl ?_
      refine Z_callS0 (M' := mX7_addAll) (pc' := 149) (st := []) [.long (r10), .ref (q11 + 2), vi ((gI μ9 q11 0) * 7)] dX7_digest_146 rfl sX7_addAll lX7_187 rfl (Nat.le_of_ble_eq_true rfl) (Nat.le_refl 0) (Nat.le_refl 0) ?_
      refine Cl_mono P ?_
      rintro _ μ15 ⟨r16, rfl, P⟩
      show Z SS none mX7_digest (d + 1) 0 0 (qL Q) 149 [some (.ref 0), some (.long (r10)), none, some (vi x3)] [.long (r16)] μ15 0 0
      refine Z_lstore_n (pc' := 150) (lo' := [some (.ref 0), some (.long (r16)), none, some (vi x3)]) dX7_digest_149 rfl (by decide) rfl ?_
      refine Z_lload_n (pc' := 151) dX7_digest_150 rfl rfl ?_
      refine Z_aload_n (pc' := 152) dX7_digest_151 rfl rfl ?_
      refine Z_getR (q := 1) (pc' := 155) dX7_digest_152 rfl fX7_10 rfl (Or.inl dd_0) (Or.inl rr_0_0) ?_
      obtain ⟨q17, h18, P⟩ := P
      refine Z_getR (q := q17) (pc' := 158) dX7_digest_155 rfl fX7_121 rfl (Or.inl dd_1) (Or.inr h18) ?_
      have h19 := P.1
      have P := P.2
      have h20 := P.1
      have P := P.2
      refine Z_getR (q := q17 + 3) (pc' := 161) dX7_digest_158 rfl fX7_156 rfl (Or.inr h19) (Or.inr h20) ?_
      refine Z_aload_n (pc' := 162) dX7_digest_161 rfl rfl ?_
      refine Z_getR (q := 1) (pc' := 165) dX7_digest_162 rfl fX7_10 rfl (Or.inl dd_0) (Or.inl rr_0_0) ?_
      refine Z_getR (q := q17) (pc' := 168) dX7_digest_165 rfl fX7_121 rfl (Or.inl dd_1) (Or.inr h18) ?_
      refine Z_getI' (ji := 1) (pc' := 171) dX7_digest_168 rfl rfl fX7_155 rfl (Or.inr h19) ?_
      refine Z_iconst (pc' := 172) dX7_digest_171 rfl ?_
      refine Z_imul (pc' := 173) dX7_digest_172 rfl ?_
      refine Z_callS0 (M' := mX7_addAll) (pc' := 176) (st := []) [.long (r16), .ref (q17 + 3), vi ((gI μ15 q17 1) * 5)] dX7_digest_173 rfl sX7_addAll lX7_187 rfl (Nat.le_of_ble_eq_true rfl) (Nat.le_refl 0) (Nat.le_refl 0) ?_
      refine Cl_mono P ?_
      rintro _ μ21 ⟨r22, rfl, P⟩
      show Z SS none mX7_digest (d + 1) 0 0 (qL Q) 176 [some (.ref 0), some (.long (r16)), none, some (vi x3)] [.long (r22)] μ21 0 0
      refine Z_lstore_n (pc' := 177) (lo' := [some (.ref 0), some (.long (r22)), none, some (vi x3)]) dX7_digest_176 rfl (by decide) rfl ?_
      refine Z_lload_n (pc' := 178) dX7_digest_177 rfl rfl ?_
      exact Z_lreturn dX7_digest_178 rfl (Nat.le_refl 0) (Nat.le_refl 0) P
  · have P := P.2 c2
    refine Z_ldc2 (pc' := 42) dX7_digest_39 rfl kX7_178 ?_
    refine Z_lload_n (pc' := 43) dX7_digest_42 rfl rfl ?_
    refine Z_lmul (pc' := 44) dX7_digest_43 rfl ?_
    refine Z_aload_n (pc' := 45) dX7_digest_44 rfl rfl ?_
    refine Z_iload_n (pc' := 46) dX7_digest_45 rfl rfl ?_
    refine Z_iconst (pc' := 47) dX7_digest_46 rfl ?_
    refine Z_iconst (pc' := 48) dX7_digest_47 rfl ?_
    refine Z_callV0 (M' := mX7_span) (pc' := 51) (st := [.long (((31 : Int64) * y1))]) [vi x3, vi 1, vi 0] dX7_digest_48 rfl vX7_span lX7_183 (Or.inl dd_0) rfl (Nat.le_of_ble_eq_true rfl) (Nat.le_refl 0) (Nat.le_refl 0) ?_
    refine Cl_mono P ?_
    rintro _ μ23 ⟨r24, rfl, P⟩
    show Z SS none mX7_digest (d + 1) 0 0 (qL Q) 51 [some (.ref 0), some (.long (y1)), none, some (vi x3)] [vi r24, .long (((31 : Int64) * y1))] μ23 0 0
    refine Z_i2l (pc' := 52) dX7_digest_51 rfl ?_
    refine Z_ladd (pc' := 53) dX7_digest_52 rfl ?_
    refine Z_lstore_n (pc' := 54) (lo' := [some (.ref 0), some (.long ((((31 : Int64) * y1) + (Int32.ofInt r24).toInt64))), none, some (vi x3)]) dX7_digest_53 rfl (by decide) rfl ?_
    refine Z_ldc2 (pc' := 57) dX7_digest_54 rfl kX7_178 ?_
    refine Z_lload_n (pc' := 58) dX7_digest_57 rfl rfl ?_
    refine Z_lmul (pc' := 59) dX7_digest_58 rfl ?_
    refine Z_aload_n (pc' := 60) dX7_digest_59 rfl rfl ?_
    refine Z_iload_n (pc' := 61) dX7_digest_60 rfl rfl ?_
    refine Z_iconst (pc' := 62) dX7_digest_61 rfl ?_
    refine Z_iconst (pc' := 63) dX7_digest_62 rfl ?_
    refine Z_callV0 (M' := mX7_span) (pc' := 66) (st := [.long (((31 : Int64) * (((31 : Int64) * y1) + (Int32.ofInt r24).toInt64)))]) [vi x3, vi 1, vi 1] dX7_digest_63 rfl vX7_span lX7_183 (Or.inl dd_0) rfl (Nat.le_of_ble_eq_true rfl) (Nat.le_refl 0) (Nat.le_refl 0) ?_
    refine Cl_mono P ?_
    rintro _ μ25 ⟨r26, rfl, P⟩
    show Z SS none mX7_digest (d + 1) 0 0 (qL Q) 66 [some (.ref 0), some (.long ((((31 : Int64) * y1) + (Int32.ofInt r24).toInt64))), none, some (vi x3)] [vi r26, .long (((31 : Int64) * (((31 : Int64) * y1) + (Int32.ofInt r24).toInt64)))] μ25 0 0
    refine Z_i2l (pc' := 67) dX7_digest_66 rfl ?_
    refine Z_ladd (pc' := 68) dX7_digest_67 rfl ?_
    refine Z_lstore_n (pc' := 69) (lo' := [some (.ref 0), some (.long ((((31 : Int64) * (((31 : Int64) * y1) + (Int32.ofInt r24).toInt64)) + (Int32.ofInt r26).toInt64))), none, some (vi x3)]) dX7_digest_68 rfl (by decide) rfl ?_
    refine Z_iinc (pc' := 72) (lo' := [some (.ref 0), some (.long ((((31 : Int64) * (((31 : Int64) * y1) + (Int32.ofInt r24).toInt64)) + (Int32.ofInt r26).toInt64))), none, some (vi (x3 + 1))]) dX7_digest_69 rfl (by decide) rfl rfl ?_
    refine Z_goto (tgt := 33) dX7_digest_72 (by decide) ?_
    exact P
