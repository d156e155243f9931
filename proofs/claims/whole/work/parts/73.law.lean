theorem z_nx {a b z : Int} (h : a ≤ z) (hn : ¬ z = a) (hb : a + 1 = b) : b ≤ z := by omega
abbrev zL_law_18 (X : zX) (d : Nat) (Q : Int → zMem → Prop) (x3 : Int) (μ : zMem) (k n : Nat) : Prop := Z SS X mL_law (d + 1) 600000 7302250 (qI Q) 18 [some (.float 0), some (.ref 0), some (.ref 54), some (vi x3)] [] μ k n
abbrev zL_law_156 (X : zX) (d : Nat) (Q : Int → zMem → Prop) (x3 : Int) (μ : zMem) (k n : Nat) : Prop := Z SS X mL_law (d + 1) 600000 7302250 (qI Q) 156 [some (.float 0), some (.ref 0), some (.ref 54), some (vi x3)] [] μ k n
abbrev zL_law_219 (X : zX) (d : Nat) (Q : Int → zMem → Prop) (x3 : Int) (μ : zMem) (k n : Nat) : Prop := Z SS X mL_law (d + 1) 600000 7302250 (qI Q) 219 [some (.float 0), some (.ref 0), some (.ref 54), some (vi x3)] [] μ k n
abbrev zL_law_262 (X : zX) (d : Nat) (Q : Int → zMem → Prop) (x3 : Int) (μ : zMem) (k n : Nat) : Prop := Z SS X mL_law (d + 1) 600000 7302250 (qI Q) 262 [some (.float 0), some (.ref 0), some (.ref 54), some (vi x3)] [] μ k n
abbrev zL_law_285 (X : zX) (d : Nat) (Q : Int → zMem → Prop) (x3 : Int) (μ : zMem) (k n : Nat) : Prop := Z SS X mL_law (d + 1) 600000 7302250 (qI Q) 285 [some (.float 0), some (.ref 0), some (.ref 54), some (vi x3)] [] μ k n
abbrev zL_law_318 (X : zX) (d : Nat) (Q : Int → zMem → Prop) (x3 : Int) (μ : zMem) (k n : Nat) : Prop := Z SS X mL_law (d + 1) 600000 7302250 (qI Q) 318 [some (.float 0), some (.ref 0), some (.ref 54), some (vi x3)] [] μ k n
abbrev zL_law_361 (X : zX) (d : Nat) (Q : Int → zMem → Prop) (x3 : Int) (μ : zMem) (k n : Nat) : Prop := Z SS X mL_law (d + 1) 600000 7302250 (qI Q) 361 [some (.float 0), some (.ref 0), some (.ref 54), some (vi x3)] [] μ k n
abbrev zL_law_394 (X : zX) (d : Nat) (Q : Int → zMem → Prop) (x3 : Int) (μ : zMem) (k n : Nat) : Prop := Z SS X mL_law (d + 1) 600000 7302250 (qI Q) 394 [some (.float 0), some (.ref 0), some (.ref 54), some (vi x3)] [] μ k n
abbrev zL_law_463 (X : zX) (d : Nat) (Q : Int → zMem → Prop) (x3 : Int) (μ : zMem) (k n : Nat) : Prop := Z SS X mL_law (d + 1) 600000 7302250 (qI Q) 463 [some (.float 0), some (.ref 0), some (.ref 54), some (vi x3)] [] μ k n
abbrev zL_law_476 (X : zX) (d : Nat) (Q : Int → zMem → Prop) (x3 : Int) (μ : zMem) (k n : Nat) : Prop := Z SS X mL_law (d + 1) 600000 7302250 (qI Q) 476 [some (.float 0), some (.ref 0), some (.ref 54), some (vi x3)] [] μ k n
abbrev zL_law_529 (X : zX) (d : Nat) (Q : Int → zMem → Prop) (x3 : Int) (μ : zMem) (k n : Nat) : Prop := Z SS X mL_law (d + 1) 600000 7302250 (qI Q) 529 [some (.float 0), some (.ref 0), some (.ref 54), some (vi x3)] [] μ k n
abbrev zL_law_582 (X : zX) (d : Nat) (Q : Int → zMem → Prop) (x3 : Int) (μ : zMem) (k n : Nat) : Prop := Z SS X mL_law (d + 1) 600000 7302250 (qI Q) 582 [some (.float 0), some (.ref 0), some (.ref 54), some (vi x3)] [] μ k n
abbrev zL_law_605 (X : zX) (d : Nat) (Q : Int → zMem → Prop) (x3 : Int) (μ : zMem) (k n : Nat) : Prop := Z SS X mL_law (d + 1) 600000 7302250 (qI Q) 605 [some (.float 0), some (.ref 0), some (.ref 54), some (vi x3)] [] μ k n
abbrev zL_law_638 (X : zX) (d : Nat) (Q : Int → zMem → Prop) (x3 : Int) (μ : zMem) (k n : Nat) : Prop := Z SS X mL_law (d + 1) 600000 7302250 (qI Q) 638 [some (.float 0), some (.ref 0), some (.ref 54), some (vi x3)] [] μ k n
abbrev zL_law_661 (X : zX) (d : Nat) (Q : Int → zMem → Prop) (x3 : Int) (μ : zMem) (k n : Nat) : Prop := Z SS X mL_law (d + 1) 600000 7302250 (qI Q) 661 [some (.float 0), some (.ref 0), some (.ref 54), some (vi x3)] [] μ k n
abbrev zL_law_674 (X : zX) (d : Nat) (Q : Int → zMem → Prop) (x3 : Int) (μ : zMem) (k n : Nat) : Prop := Z SS X mL_law (d + 1) 600000 7302250 (qI Q) 674 [some (.float 0), some (.ref 0), some (.ref 54), some (vi x3)] [] μ k n
abbrev zL_law_697 (X : zX) (d : Nat) (Q : Int → zMem → Prop) (x3 : Int) (μ : zMem) (k n : Nat) : Prop := Z SS X mL_law (d + 1) 600000 7302250 (qI Q) 697 [some (.float 0), some (.ref 0), some (.ref 54), some (vi x3)] [] μ k n
abbrev zL_law_720 (X : zX) (d : Nat) (Q : Int → zMem → Prop) (x3 : Int) (μ : zMem) (k n : Nat) : Prop := Z SS X mL_law (d + 1) 600000 7302250 (qI Q) 720 [some (.float 0), some (.ref 0), some (.ref 54), some (vi x3)] [] μ k n
abbrev zL_law_743 (X : zX) (d : Nat) (Q : Int → zMem → Prop) (x3 : Int) (μ : zMem) (k n : Nat) : Prop := Z SS X mL_law (d + 1) 600000 7302250 (qI Q) 743 [some (.float 0), some (.ref 0), some (.ref 54), some (vi x3)] [] μ k n
abbrev zL_law_756 (X : zX) (d : Nat) (Q : Int → zMem → Prop) (x3 : Int) (μ : zMem) (k n : Nat) : Prop := Z SS X mL_law (d + 1) 600000 7302250 (qI Q) 756 [some (.float 0), some (.ref 0), some (.ref 54), some (vi x3)] [] μ k n
abbrev zL_law_779 (X : zX) (d : Nat) (Q : Int → zMem → Prop) (x3 : Int) (μ : zMem) (k n : Nat) : Prop := Z SS X mL_law (d + 1) 600000 7302250 (qI Q) 779 [some (.float 0), some (.ref 0), some (.ref 54), some (vi x3)] [] μ k n
abbrev zL_law_812 (X : zX) (d : Nat) (Q : Int → zMem → Prop) (x3 : Int) (μ : zMem) (k n : Nat) : Prop := Z SS X mL_law (d + 1) 600000 7302250 (qI Q) 812 [some (.float 0), some (.ref 0), some (.ref 54), some (vi x3)] [] μ k n
abbrev zL_law_845 (X : zX) (d : Nat) (Q : Int → zMem → Prop) (x3 : Int) (μ : zMem) (k n : Nat) : Prop := Z SS X mL_law (d + 1) 600000 7302250 (qI Q) 845 [some (.float 0), some (.ref 0), some (.ref 54), some (vi x3)] [] μ k n
abbrev zL_law_868 (X : zX) (d : Nat) (Q : Int → zMem → Prop) (x3 : Int) (μ : zMem) (k n : Nat) : Prop := Z SS X mL_law (d + 1) 600000 7302250 (qI Q) 868 [some (.float 0), some (.ref 0), some (.ref 54), some (vi x3)] [] μ k n
abbrev zL_law_881 (X : zX) (d : Nat) (Q : Int → zMem → Prop) (x3 : Int) (μ : zMem) (k n : Nat) : Prop := Z SS X mL_law (d + 1) 600000 7302250 (qI Q) 881 [some (.float 0), some (.ref 0), some (.ref 54), some (vi x3)] [] μ k n
abbrev zL_law_894 (X : zX) (d : Nat) (Q : Int → zMem → Prop) (x3 : Int) (μ : zMem) (k n : Nat) : Prop := Z SS X mL_law (d + 1) 600000 7302250 (qI Q) 894 [some (.float 0), some (.ref 0), some (.ref 54), some (vi x3)] [] μ k n
abbrev zL_law_907 (X : zX) (d : Nat) (Q : Int → zMem → Prop) (x3 : Int) (μ : zMem) (k n : Nat) : Prop := Z SS X mL_law (d + 1) 600000 7302250 (qI Q) 907 [some (.float 0), some (.ref 0), some (.ref 54), some (vi x3)] [] μ k n
abbrev zL_law_920 (X : zX) (d : Nat) (Q : Int → zMem → Prop) (x3 : Int) (μ : zMem) (k n : Nat) : Prop := Z SS X mL_law (d + 1) 600000 7302250 (qI Q) 920 [some (.float 0), some (.ref 0), some (.ref 54), some (vi x3)] [] μ k n
abbrev zL_law_934 (X : zX) (d : Nat) (Q : Int → zMem → Prop) (x3 : Int) (μ : zMem) (k n : Nat) : Prop := Z SS X mL_law (d + 1) 600000 7302250 (qI Q) 934 [some (.float 0), some (.ref 0), some (.ref 54), some (vi x3)] [] μ k n
theorem bL_law_18 {X : zX} {d : Nat} {Q : Int → zMem → Prop} {μ : zMem} {k n : Nat} {x3 : Int} {sL : Nat} {sf : Nat → Int32} (hX : X = some (sL, sf)) (hsL : sL ≤ 2147483647) (P : (zIn x3) ∧ ((zIn ((sL : Int) - 6)) ∧ ((((sL : Int) - 6) < x3 → ((k ≤ 600000) ∧ ((n ≤ 7302250) ∧ (Q 1 μ)))) ∧ (¬ (((sL : Int) - 6) < x3) → ((0 ≤ x3) ∧ ((x3 < sL) ∧ (∃ z8 : Int, (Int32.ofInt ((sf x3.toNat).toInt) &&& Int32.ofInt 31 = Int32.ofInt z8) ∧ ((zIn z8) ∧ ((z8 = 0 → (zL_law_156 X d Q x3 μ k n)) ∧ (¬ (z8 = 0) → ((z8 = 1 → (zL_law_219 X d Q x3 μ k n)) ∧ (¬ (z8 = 1) → ((z8 = 2 → (zL_law_262 X d Q x3 μ k n)) ∧ (¬ (z8 = 2) → ((z8 = 3 → (zL_law_285 X d Q x3 μ k n)) ∧ (¬ (z8 = 3) → ((z8 = 4 → (zL_law_318 X d Q x3 μ k n)) ∧ (¬ (z8 = 4) → ((z8 = 5 → (zL_law_361 X d Q x3 μ k n)) ∧ (¬ (z8 = 5) → ((z8 = 6 → (zL_law_394 X d Q x3 μ k n)) ∧ (¬ (z8 = 6) → ((z8 = 7 → (zL_law_463 X d Q x3 μ k n)) ∧ (¬ (z8 = 7) → ((z8 = 8 → (zL_law_476 X d Q x3 μ k n)) ∧ (¬ (z8 = 8) → ((z8 = 9 → (zL_law_529 X d Q x3 μ k n)) ∧ (¬ (z8 = 9) → ((z8 = 10 → (zL_law_582 X d Q x3 μ k n)) ∧ (¬ (z8 = 10) → ((z8 = 11 → (zL_law_605 X d Q x3 μ k n)) ∧ (¬ (z8 = 11) → ((z8 = 12 → (zL_law_638 X d Q x3 μ k n)) ∧ (¬ (z8 = 12) → ((z8 = 13 → (zL_law_661 X d Q x3 μ k n)) ∧ (¬ (z8 = 13) → ((z8 = 14 → (zL_law_674 X d Q x3 μ k n)) ∧ (¬ (z8 = 14) → ((z8 = 15 → (zL_law_697 X d Q x3 μ k n)) ∧ (¬ (z8 = 15) → ((z8 = 16 → (zL_law_720 X d Q x3 μ k n)) ∧ (¬ (z8 = 16) → ((z8 = 17 → (zL_law_743 X d Q x3 μ k n)) ∧ (¬ (z8 = 17) → ((z8 = 18 → (zL_law_756 X d Q x3 μ k n)) ∧ (¬ (z8 = 18) → ((z8 = 19 → (zL_law_779 X d Q x3 μ k n)) ∧ (¬ (z8 = 19) → ((z8 = 20 → (zL_law_812 X d Q x3 μ k n)) ∧ (¬ (z8 = 20) → ((z8 = 21 → (zL_law_845 X d Q x3 μ k n)) ∧ (¬ (z8 = 21) → ((z8 = 22 → (zL_law_868 X d Q x3 μ k n)) ∧ (¬ (z8 = 22) → ((z8 = 23 → (zL_law_881 X d Q x3 μ k n)) ∧ (¬ (z8 = 23) → ((z8 = 24 → (zL_law_894 X d Q x3 μ k n)) ∧ (¬ (z8 = 24) → ((z8 = 25 → (zL_law_907 X d Q x3 μ k n)) ∧ (¬ (z8 = 25) → ((z8 = 26 → (zL_law_920 X d Q x3 μ k n)) ∧ (¬ (z8 = 26) → (zL_law_934 X d Q x3 μ k n))))))))))))))))))))))))))))))))))))))))))))))))))))))))))))))) : zL_law_18 X d Q x3 μ k n := by
  refine Z_iload_n (pc' := 19) dL_law_18 rfl rfl ?_
  refine Z_aload_nS (pc' := 20) dL_law_19 rfl rfl ?_
  refine Z_slen (pc' := 21) hX dL_law_20 rfl ?_
  refine Z_bipush (pc' := 23) dL_law_21 rfl rfl ?_
  refine Z_isub (pc' := 24) dL_law_23 rfl ?_
  have h1 := P.1
  have P := P.2
  have h2 := P.1
  have P := P.2
  refine Z_icmp_gt (tgt := 940) (pc' := 27) dL_law_24 (by decide) rfl h1 h2 (fun c3 => ?_) (fun c3 => ?_)
  · have P := P.1 c3
    refine Z_iconst (pc' := 941) dL_law_940 rfl ?_
    have h4 := P.1
    have P := P.2
    have h5 := P.1
    have P := P.2
    exact Z_zreturn dL_law_941 rfl (Or.inr rfl) h4 h5 P
  · have P := P.2 c3
    refine Z_aload_nS (pc' := 28) dL_law_27 rfl rfl ?_
    refine Z_iload_n (pc' := 29) dL_law_28 rfl rfl ?_
    have h6 := P.1
    have P := P.2
    have h7 := P.1
    have P := P.2
    refine Z_sld (pc' := 30) hX dL_law_29 rfl hsL h6 h7 ?_
    refine Z_bipush (pc' := 32) dL_law_30 rfl rfl ?_
    obtain ⟨z8, h9, P⟩ := P
    refine Z_iand (z := z8) (pc' := 33) dL_law_32 rfl h9 ?_
    have h10 := P.1
    have P := P.2
    by_cases c11 : z8 = 0
    · have P := P.1 c11
      refine Z_tableIn (tgt := 156) dL_law_33 h10 (by rw [c11]; decide) (by rw [c11]; decide) (by rw [c11] <;> rfl) (by decide) ?_
      exact P
    · have P := P.2 c11
      by_cases c12 : z8 = 1
      · have P := P.1 c12
        refine Z_tableIn (tgt := 219) dL_law_33 h10 (by rw [c12]; decide) (by rw [c12]; decide) (by rw [c12] <;> rfl) (by decide) ?_
        exact P
      · have P := P.2 c12
        by_cases c13 : z8 = 2
        · have P := P.1 c13
          refine Z_tableIn (tgt := 262) dL_law_33 h10 (by rw [c13]; decide) (by rw [c13]; decide) (by rw [c13] <;> rfl) (by decide) ?_
          exact P
        · have P := P.2 c13
          by_cases c14 : z8 = 3
          · have P := P.1 c14
            refine Z_tableIn (tgt := 285) dL_law_33 h10 (by rw [c14]; decide) (by rw [c14]; decide) (by rw [c14] <;> rfl) (by decide) ?_
            exact P
          · have P := P.2 c14
            by_cases c15 : z8 = 4
            · have P := P.1 c15
              refine Z_tableIn (tgt := 318) dL_law_33 h10 (by rw [c15]; decide) (by rw [c15]; decide) (by rw [c15] <;> rfl) (by decide) ?_
              exact P
            · have P := P.2 c15
              by_cases c16 : z8 = 5
              · have P := P.1 c16
                refine Z_tableIn (tgt := 361) dL_law_33 h10 (by rw [c16]; decide) (by rw [c16]; decide) (by rw [c16] <;> rfl) (by decide) ?_
                exact P
              · have P := P.2 c16
                by_cases c17 : z8 = 6
                · have P := P.1 c17
                  refine Z_tableIn (tgt := 394) dL_law_33 h10 (by rw [c17]; decide) (by rw [c17]; decide) (by rw [c17] <;> rfl) (by decide) ?_
                  exact P
                · have P := P.2 c17
                  by_cases c18 : z8 = 7
                  · have P := P.1 c18
                    refine Z_tableIn (tgt := 463) dL_law_33 h10 (by rw [c18]; decide) (by rw [c18]; decide) (by rw [c18] <;> rfl) (by decide) ?_
                    exact P
                  · have P := P.2 c18
                    by_cases c19 : z8 = 8
                    · have P := P.1 c19
                      refine Z_tableIn (tgt := 476) dL_law_33 h10 (by rw [c19]; decide) (by rw [c19]; decide) (by rw [c19] <;> rfl) (by decide) ?_
                      exact P
                    · have P := P.2 c19
                      by_cases c20 : z8 = 9
                      · have P := P.1 c20
                        refine Z_tableIn (tgt := 529) dL_law_33 h10 (by rw [c20]; decide) (by rw [c20]; decide) (by rw [c20] <;> rfl) (by decide) ?_
                        exact P
                      · have P := P.2 c20
                        by_cases c21 : z8 = 10
                        · have P := P.1 c21
                          refine Z_tableIn (tgt := 582) dL_law_33 h10 (by rw [c21]; decide) (by rw [c21]; decide) (by rw [c21] <;> rfl) (by decide) ?_
                          exact P
                        · have P := P.2 c21
                          by_cases c22 : z8 = 11
                          · have P := P.1 c22
                            refine Z_tableIn (tgt := 605) dL_law_33 h10 (by rw [c22]; decide) (by rw [c22]; decide) (by rw [c22] <;> rfl) (by decide) ?_
                            exact P
                          · have P := P.2 c22
                            by_cases c23 : z8 = 12
                            · have P := P.1 c23
                              refine Z_tableIn (tgt := 638) dL_law_33 h10 (by rw [c23]; decide) (by rw [c23]; decide) (by rw [c23] <;> rfl) (by decide) ?_
                              exact P
                            · have P := P.2 c23
                              by_cases c24 : z8 = 13
                              · have P := P.1 c24
                                refine Z_tableIn (tgt := 661) dL_law_33 h10 (by rw [c24]; decide) (by rw [c24]; decide) (by rw [c24] <;> rfl) (by decide) ?_
                                exact P
                              · have P := P.2 c24
                                by_cases c25 : z8 = 14
                                · have P := P.1 c25
                                  refine Z_tableIn (tgt := 674) dL_law_33 h10 (by rw [c25]; decide) (by rw [c25]; decide) (by rw [c25] <;> rfl) (by decide) ?_
                                  exact P
                                · have P := P.2 c25
                                  by_cases c26 : z8 = 15
                                  · have P := P.1 c26
                                    refine Z_tableIn (tgt := 697) dL_law_33 h10 (by rw [c26]; decide) (by rw [c26]; decide) (by rw [c26] <;> rfl) (by decide) ?_
                                    exact P
                                  · have P := P.2 c26
                                    by_cases c27 : z8 = 16
                                    · have P := P.1 c27
                                      refine Z_tableIn (tgt := 720) dL_law_33 h10 (by rw [c27]; decide) (by rw [c27]; decide) (by rw [c27] <;> rfl) (by decide) ?_
                                      exact P
                                    · have P := P.2 c27
                                      by_cases c28 : z8 = 17
                                      · have P := P.1 c28
                                        refine Z_tableIn (tgt := 743) dL_law_33 h10 (by rw [c28]; decide) (by rw [c28]; decide) (by rw [c28] <;> rfl) (by decide) ?_
                                        exact P
                                      · have P := P.2 c28
                                        by_cases c29 : z8 = 18
                                        · have P := P.1 c29
                                          refine Z_tableIn (tgt := 756) dL_law_33 h10 (by rw [c29]; decide) (by rw [c29]; decide) (by rw [c29] <;> rfl) (by decide) ?_
                                          exact P
                                        · have P := P.2 c29
                                          by_cases c30 : z8 = 19
                                          · have P := P.1 c30
                                            refine Z_tableIn (tgt := 779) dL_law_33 h10 (by rw [c30]; decide) (by rw [c30]; decide) (by rw [c30] <;> rfl) (by decide) ?_
                                            exact P
                                          · have P := P.2 c30
                                            by_cases c31 : z8 = 20
                                            · have P := P.1 c31
                                              refine Z_tableIn (tgt := 812) dL_law_33 h10 (by rw [c31]; decide) (by rw [c31]; decide) (by rw [c31] <;> rfl) (by decide) ?_
                                              exact P
                                            · have P := P.2 c31
                                              by_cases c32 : z8 = 21
                                              · have P := P.1 c32
                                                refine Z_tableIn (tgt := 845) dL_law_33 h10 (by rw [c32]; decide) (by rw [c32]; decide) (by rw [c32] <;> rfl) (by decide) ?_
                                                exact P
                                              · have P := P.2 c32
                                                by_cases c33 : z8 = 22
                                                · have P := P.1 c33
                                                  refine Z_tableIn (tgt := 868) dL_law_33 h10 (by rw [c33]; decide) (by rw [c33]; decide) (by rw [c33] <;> rfl) (by decide) ?_
                                                  exact P
                                                · have P := P.2 c33
                                                  by_cases c34 : z8 = 23
                                                  · have P := P.1 c34
                                                    refine Z_tableIn (tgt := 881) dL_law_33 h10 (by rw [c34]; decide) (by rw [c34]; decide) (by rw [c34] <;> rfl) (by decide) ?_
                                                    exact P
                                                  · have P := P.2 c34
                                                    by_cases c35 : z8 = 24
                                                    · have P := P.1 c35
                                                      refine Z_tableIn (tgt := 894) dL_law_33 h10 (by rw [c35]; decide) (by rw [c35]; decide) (by rw [c35] <;> rfl) (by decide) ?_
                                                      exact P
                                                    · have P := P.2 c35
                                                      by_cases c36 : z8 = 25
                                                      · have P := P.1 c36
                                                        refine Z_tableIn (tgt := 907) dL_law_33 h10 (by rw [c36]; decide) (by rw [c36]; decide) (by rw [c36] <;> rfl) (by decide) ?_
                                                        exact P
                                                      · have P := P.2 c36
                                                        by_cases c37 : z8 = 26
                                                        · have P := P.1 c37
                                                          refine Z_tableIn (tgt := 920) dL_law_33 h10 (by rw [c37]; decide) (by rw [c37]; decide) (by rw [c37] <;> rfl) (by decide) ?_
                                                          exact P
                                                        · have P := P.2 c37
                                                          refine Z_tableOut (tgt := 934) dL_law_33 h10 ((Int.lt_or_le z8 0).elim Or.inl (fun h0 => Or.inr (z_nx (z_nx (z_nx (z_nx (z_nx (z_nx (z_nx (z_nx (z_nx (z_nx (z_nx (z_nx (z_nx (z_nx (z_nx (z_nx (z_nx (z_nx (z_nx (z_nx (z_nx (z_nx (z_nx (z_nx (z_nx (z_nx (z_nx h0 c11 rfl) c12 rfl) c13 rfl) c14 rfl) c15 rfl) c16 rfl) c17 rfl) c18 rfl) c19 rfl) c20 rfl) c21 rfl) c22 rfl) c23 rfl) c24 rfl) c25 rfl) c26 rfl) c27 rfl) c28 rfl) c29 rfl) c30 rfl) c31 rfl) c32 rfl) c33 rfl) c34 rfl) c35 rfl) c36 rfl) c37 rfl))) (by decide) ?_
                                                          exact P
theorem bL_law_156 {X : zX} {d : Nat} {Q : Int → zMem → Prop} {μ : zMem} {k n : Nat} {x3 : Int} {sL : Nat} {sf : Nat → Int32} (hX : X = some (sL, sf)) (hsL : sL ≤ 2147483647) (P : (0 ≤ (x3 + 1)) ∧ (((x3 + 1) < sL) ∧ ((0 ≤ (x3 + 2)) ∧ (((x3 + 2) < sL) ∧ ((0 ≤ (x3 + 3)) ∧ (((x3 + 3) < sL) ∧ ((0 ≤ (x3 + 4)) ∧ (((x3 + 4) < sL) ∧ ((0 ≤ (x3 + 5)) ∧ (((x3 + 5) < sL) ∧ ((k ≤ 600000) ∧ ((n ≤ 7302250) ∧ (kX7_addShape d ((sf (x3 + 1).toNat).toInt) ((sf (x3 + 2).toNat).toInt) ((sf (x3 + 3).toNat).toInt) ((sf (x3 + 4).toNat).toInt) ((sf (x3 + 5).toNat).toInt) μ (fun (r14 : Int) (μ13 : zMem) => kX8_addShape d ((sf (x3 + 1).toNat).toInt) ((sf (x3 + 2).toNat).toInt) ((sf (x3 + 3).toNat).toInt) ((sf (x3 + 4).toNat).toInt) ((sf (x3 + 5).toNat).toInt) μ13 (fun (r16 : Int) (μ15 : zMem) => (zIn r14) ∧ ((zIn r16) ∧ ((r14 = r16 → (zL_law_934 X d Q x3 μ15 k n)) ∧ (¬ (r14 = r16) → (Q 0 μ15))))))))))))))))))) : zL_law_156 X d Q x3 μ k n := by
  refine Z_aload_n (pc' := 157) dL_law_156 rfl rfl ?_
  refine Z_aload_nS (pc' := 158) dL_law_157 rfl rfl ?_
  refine Z_iload_n (pc' := 159) dL_law_158 rfl rfl ?_
  refine Z_iconst (pc' := 160) dL_law_159 rfl ?_
  refine Z_iadd (pc' := 161) dL_law_160 rfl ?_
  have h1 := P.1
  have P := P.2
  have h2 := P.1
  have P := P.2
  refine Z_sld (pc' := 162) hX dL_law_161 rfl hsL h1 h2 ?_
  refine Z_aload_nS (pc' := 163) dL_law_162 rfl rfl ?_
  refine Z_iload_n (pc' := 164) dL_law_163 rfl rfl ?_
  refine Z_iconst (pc' := 165) dL_law_164 rfl ?_
  refine Z_iadd (pc' := 166) dL_law_165 rfl ?_
  have h3 := P.1
  have P := P.2
  have h4 := P.1
  have P := P.2
  refine Z_sld (pc' := 167) hX dL_law_166 rfl hsL h3 h4 ?_
  refine Z_aload_nS (pc' := 168) dL_law_167 rfl rfl ?_
  refine Z_iload_n (pc' := 169) dL_law_168 rfl rfl ?_
  refine Z_iconst (pc' := 170) dL_law_169 rfl ?_
  refine Z_iadd (pc' := 171) dL_law_170 rfl ?_
  have h5 := P.1
  have P := P.2
  have h6 := P.1
  have P := P.2
  refine Z_sld (pc' := 172) hX dL_law_171 rfl hsL h5 h6 ?_
  refine Z_aload_nS (pc' := 173) dL_law_172 rfl rfl ?_
  refine Z_iload_n (pc' := 174) dL_law_173 rfl rfl ?_
  refine Z_iconst (pc' := 175) dL_law_174 rfl ?_
  refine Z_iadd (pc' := 176) dL_law_175 rfl ?_
  have h7 := P.1
  have P := P.2
  have h8 := P.1
  have P := P.2
  refine Z_sld (pc' := 177) hX dL_law_176 rfl hsL h7 h8 ?_
  refine Z_aload_nS (pc' := 178) dL_law_177 rfl rfl ?_
  refine Z_iload_n (pc' := 179) dL_law_178 rfl rfl ?_
  refine Z_iconst (pc' := 180) dL_law_179 rfl ?_
  refine Z_iadd (pc' := 181) dL_law_180 rfl ?_
  have h9 := P.1
  have P := P.2
  have h10 := P.1
  have P := P.2
  refine Z_sld (pc' := 182) hX dL_law_181 rfl hsL h9 h10 ?_
  have h11 := P.1
  have P := P.2
  have h12 := P.1
  have P := P.2
  refine Z_callV0 (M' := mX7_addShape) (pc' := 185) (st := []) [vi ((sf (x3 + 1).toNat).toInt), vi ((sf (x3 + 2).toNat).toInt), vi ((sf (x3 + 3).toNat).toInt), vi ((sf (x3 + 4).toNat).toInt), vi ((sf (x3 + 5).toNat).toInt)] dL_law_182 rfl vX7_addShape lL_13 (Or.inl dd_0) rfl (Nat.le_of_ble_eq_true rfl) h11 h12 ?_
  refine Cl_mono P ?_
  rintro _ μ13 ⟨r14, rfl, P⟩
  show Z SS X mL_law (d + 1) 600000 7302250 (qI Q) 185 [some (.float 0), some (.ref 0), some (.ref 54), some (vi x3)] [vi r14] μ13 k n
  refine Z_aload_n (pc' := 186) dL_law_185 rfl rfl ?_
  refine Z_aload_nS (pc' := 187) dL_law_186 rfl rfl ?_
  refine Z_iload_n (pc' := 188) dL_law_187 rfl rfl ?_
  refine Z_iconst (pc' := 189) dL_law_188 rfl ?_
  refine Z_iadd (pc' := 190) dL_law_189 rfl ?_
  refine Z_sld (pc' := 191) hX dL_law_190 rfl hsL h1 h2 ?_
  refine Z_aload_nS (pc' := 192) dL_law_191 rfl rfl ?_
  refine Z_iload_n (pc' := 193) dL_law_192 rfl rfl ?_
  refine Z_iconst (pc' := 194) dL_law_193 rfl ?_
  refine Z_iadd (pc' := 195) dL_law_194 rfl ?_
  refine Z_sld (pc' := 196) hX dL_law_195 rfl hsL h3 h4 ?_
  refine Z_aload_nS (pc' := 197) dL_law_196 rfl rfl ?_
  refine Z_iload_n (pc' := 198) dL_law_197 rfl rfl ?_
  refine Z_iconst (pc' := 199) dL_law_198 rfl ?_
  refine Z_iadd (pc' := 200) dL_law_199 rfl ?_
  refine Z_sld (pc' := 201) hX dL_law_200 rfl hsL h5 h6 ?_
  refine Z_aload_nS (pc' := 202) dL_law_201 rfl rfl ?_
  refine Z_iload_n (pc' := 203) dL_law_202 rfl rfl ?_
  refine Z_iconst (pc' := 204) dL_law_203 rfl ?_
  refine Z_iadd (pc' := 205) dL_law_204 rfl ?_
  refine Z_sld (pc' := 206) hX dL_law_205 rfl hsL h7 h8 ?_
  refine Z_aload_nS (pc' := 207) dL_law_206 rfl rfl ?_
  refine Z_iload_n (pc' := 208) dL_law_207 rfl rfl ?_
  refine Z_iconst (pc' := 209) dL_law_208 rfl ?_
  refine Z_iadd (pc' := 210) dL_law_209 rfl ?_
  refine Z_sld (pc' := 211) hX dL_law_210 rfl hsL h9 h10 ?_
  refine Z_callV0 (M' := mX8_addShape) (pc' := 214) (st := [vi r14]) [vi ((sf (x3 + 1).toNat).toInt), vi ((sf (x3 + 2).toNat).toInt), vi ((sf (x3 + 3).toNat).toInt), vi ((sf (x3 + 4).toNat).toInt), vi ((sf (x3 + 5).toNat).toInt)] dL_law_211 rfl vX8_addShape lL_17 (Or.inl dd_54) rfl (Nat.le_of_ble_eq_true rfl) h11 h12 ?_
  refine Cl_mono P ?_
  rintro _ μ15 ⟨r16, rfl, P⟩
  show Z SS X mL_law (d + 1) 600000 7302250 (qI Q) 214 [some (.float 0), some (.ref 0), some (.ref 54), some (vi x3)] [vi r16, vi r14] μ15 k n
  have h17 := P.1
  have P := P.2
  have h18 := P.1
  have P := P.2
  refine Z_icmp_eq (tgt := 934) (pc' := 217) dL_law_214 (by decide) rfl h17 h18 (fun c19 => ?_) (fun c19 => ?_)
  · have P := P.1 c19
    exact P
  · have P := P.2 c19
    refine Z_iconst (pc' := 218) dL_law_217 rfl ?_
    exact Z_zreturn dL_law_218 rfl (Or.inl rfl) h11 h12 P
theorem bL_law_219 {X : zX} {d : Nat} {Q : Int → zMem → Prop} {μ : zMem} {k n : Nat} {x3 : Int} {sL : Nat} {sf : Nat → Int32} (hX : X = some (sL, sf)) (hsL : sL ≤ 2147483647) (P : (0 ≤ (x3 + 1)) ∧ (((x3 + 1) < sL) ∧ ((0 ≤ (x3 + 2)) ∧ (((x3 + 2) < sL) ∧ ((0 ≤ (x3 + 3)) ∧ (((x3 + 3) < sL) ∧ ((k ≤ 600000) ∧ ((n ≤ 7302250) ∧ (kX7_moveShape d ((sf (x3 + 1).toNat).toInt) ((sf (x3 + 2).toNat).toInt) ((sf (x3 + 3).toNat).toInt) μ (fun (r10 : Int) (μ9 : zMem) => kX8_moveShape d ((sf (x3 + 1).toNat).toInt) ((sf (x3 + 2).toNat).toInt) ((sf (x3 + 3).toNat).toInt) μ9 (fun (r12 : Int) (μ11 : zMem) => (zIn r10) ∧ ((zIn r12) ∧ ((r10 = r12 → (zL_law_934 X d Q x3 μ11 k n)) ∧ (¬ (r10 = r12) → (Q 0 μ11))))))))))))))) : zL_law_219 X d Q x3 μ k n := by
  refine Z_aload_n (pc' := 220) dL_law_219 rfl rfl ?_
  refine Z_aload_nS (pc' := 221) dL_law_220 rfl rfl ?_
  refine Z_iload_n (pc' := 222) dL_law_221 rfl rfl ?_
  refine Z_iconst (pc' := 223) dL_law_222 rfl ?_
  refine Z_iadd (pc' := 224) dL_law_223 rfl ?_
  have h1 := P.1
  have P := P.2
  have h2 := P.1
  have P := P.2
  refine Z_sld (pc' := 225) hX dL_law_224 rfl hsL h1 h2 ?_
  refine Z_aload_nS (pc' := 226) dL_law_225 rfl rfl ?_
  refine Z_iload_n (pc' := 227) dL_law_226 rfl rfl ?_
  refine Z_iconst (pc' := 228) dL_law_227 rfl ?_
  refine Z_iadd (pc' := 229) dL_law_228 rfl ?_
  have h3 := P.1
  have P := P.2
  have h4 := P.1
  have P := P.2
  refine Z_sld (pc' := 230) hX dL_law_229 rfl hsL h3 h4 ?_
  refine Z_aload_nS (pc' := 231) dL_law_230 rfl rfl ?_
  refine Z_iload_n (pc' := 232) dL_law_231 rfl rfl ?_
  refine Z_iconst (pc' := 233) dL_law_232 rfl ?_
  refine Z_iadd (pc' := 234) dL_law_233 rfl ?_
  have h5 := P.1
  have P := P.2
  have h6 := P.1
  have P := P.2
  refine Z_sld (pc' := 235) hX dL_law_234 rfl hsL h5 h6 ?_
  have h7 := P.1
  have P := P.2
  have h8 := P.1
  have P := P.2
  refine Z_callV0 (M' := mX7_moveShape) (pc' := 238) (st := []) [vi ((sf (x3 + 1).toNat).toInt), vi ((sf (x3 + 2).toNat).toInt), vi ((sf (x3 + 3).toNat).toInt)] dL_law_235 rfl vX7_moveShape lL_18 (Or.inl dd_0) rfl (Nat.le_of_ble_eq_true rfl) h7 h8 ?_
  refine Cl_mono P ?_
  rintro _ μ9 ⟨r10, rfl, P⟩
  show Z SS X mL_law (d + 1) 600000 7302250 (qI Q) 238 [some (.float 0), some (.ref 0), some (.ref 54), some (vi x3)] [vi r10] μ9 k n
  refine Z_aload_n (pc' := 239) dL_law_238 rfl rfl ?_
  refine Z_aload_nS (pc' := 240) dL_law_239 rfl rfl ?_
  refine Z_iload_n (pc' := 241) dL_law_240 rfl rfl ?_
  refine Z_iconst (pc' := 242) dL_law_241 rfl ?_
  refine Z_iadd (pc' := 243) dL_law_242 rfl ?_
  refine Z_sld (pc' := 244) hX dL_law_243 rfl hsL h1 h2 ?_
  refine Z_aload_nS (pc' := 245) dL_law_244 rfl rfl ?_
  refine Z_iload_n (pc' := 246) dL_law_245 rfl rfl ?_
  refine Z_iconst (pc' := 247) dL_law_246 rfl ?_
  refine Z_iadd (pc' := 248) dL_law_247 rfl ?_
  refine Z_sld (pc' := 249) hX dL_law_248 rfl hsL h3 h4 ?_
  refine Z_aload_nS (pc' := 250) dL_law_249 rfl rfl ?_
  refine Z_iload_n (pc' := 251) dL_law_250 rfl rfl ?_
  refine Z_iconst (pc' := 252) dL_law_251 rfl ?_
  refine Z_iadd (pc' := 253) dL_law_252 rfl ?_
  refine Z_sld (pc' := 254) hX dL_law_253 rfl hsL h5 h6 ?_
  refine Z_callV0 (M' := mX8_moveShape) (pc' := 257) (st := [vi r10]) [vi ((sf (x3 + 1).toNat).toInt), vi ((sf (x3 + 2).toNat).toInt), vi ((sf (x3 + 3).toNat).toInt)] dL_law_254 rfl vX8_moveShape lL_22 (Or.inl dd_54) rfl (Nat.le_of_ble_eq_true rfl) h7 h8 ?_
  refine Cl_mono P ?_
  rintro _ μ11 ⟨r12, rfl, P⟩
  show Z SS X mL_law (d + 1) 600000 7302250 (qI Q) 257 [some (.float 0), some (.ref 0), some (.ref 54), some (vi x3)] [vi r12, vi r10] μ11 k n
  have h13 := P.1
  have P := P.2
  have h14 := P.1
  have P := P.2
  refine Z_icmp_eq (tgt := 934) (pc' := 260) dL_law_257 (by decide) rfl h13 h14 (fun c15 => ?_) (fun c15 => ?_)
  · have P := P.1 c15
    exact P
  · have P := P.2 c15
    refine Z_iconst (pc' := 261) dL_law_260 rfl ?_
    exact Z_zreturn dL_law_261 rfl (Or.inl rfl) h7 h8 P
theorem bL_law_262 {X : zX} {d : Nat} {Q : Int → zMem → Prop} {μ : zMem} {k n : Nat} {x3 : Int} {sL : Nat} {sf : Nat → Int32} (hX : X = some (sL, sf)) (hsL : sL ≤ 2147483647) (P : (0 ≤ (x3 + 1)) ∧ (((x3 + 1) < sL) ∧ ((k ≤ 600000) ∧ ((n ≤ 7302250) ∧ (kX7_removeShape d ((sf (x3 + 1).toNat).toInt) μ (fun (r6 : Int) (μ5 : zMem) => kX8_removeShape d ((sf (x3 + 1).toNat).toInt) μ5 (fun (r8 : Int) (μ7 : zMem) => (zIn r6) ∧ ((zIn r8) ∧ ((r6 = r8 → (zL_law_934 X d Q x3 μ7 k n)) ∧ (¬ (r6 = r8) → (Q 0 μ7))))))))))) : zL_law_262 X d Q x3 μ k n := by
  refine Z_aload_n (pc' := 263) dL_law_262 rfl rfl ?_
  refine Z_aload_nS (pc' := 264) dL_law_263 rfl rfl ?_
  refine Z_iload_n (pc' := 265) dL_law_264 rfl rfl ?_
  refine Z_iconst (pc' := 266) dL_law_265 rfl ?_
  refine Z_iadd (pc' := 267) dL_law_266 rfl ?_
  have h1 := P.1
  have P := P.2
  have h2 := P.1
  have P := P.2
  refine Z_sld (pc' := 268) hX dL_law_267 rfl hsL h1 h2 ?_
  have h3 := P.1
  have P := P.2
  have h4 := P.1
  have P := P.2
  refine Z_callV0 (M' := mX7_removeShape) (pc' := 271) (st := []) [vi ((sf (x3 + 1).toNat).toInt)] dL_law_268 rfl vX7_removeShape lL_23 (Or.inl dd_0) rfl (Nat.le_of_ble_eq_true rfl) h3 h4 ?_
  refine Cl_mono P ?_
  rintro _ μ5 ⟨r6, rfl, P⟩
  show Z SS X mL_law (d + 1) 600000 7302250 (qI Q) 271 [some (.float 0), some (.ref 0), some (.ref 54), some (vi x3)] [vi r6] μ5 k n
  refine Z_aload_n (pc' := 272) dL_law_271 rfl rfl ?_
  refine Z_aload_nS (pc' := 273) dL_law_272 rfl rfl ?_
  refine Z_iload_n (pc' := 274) dL_law_273 rfl rfl ?_
  refine Z_iconst (pc' := 275) dL_law_274 rfl ?_
  refine Z_iadd (pc' := 276) dL_law_275 rfl ?_
  refine Z_sld (pc' := 277) hX dL_law_276 rfl hsL h1 h2 ?_
  refine Z_callV0 (M' := mX8_removeShape) (pc' := 280) (st := [vi r6]) [vi ((sf (x3 + 1).toNat).toInt)] dL_law_277 rfl vX8_removeShape lL_27 (Or.inl dd_54) rfl (Nat.le_of_ble_eq_true rfl) h3 h4 ?_
  refine Cl_mono P ?_
  rintro _ μ7 ⟨r8, rfl, P⟩
  show Z SS X mL_law (d + 1) 600000 7302250 (qI Q) 280 [some (.float 0), some (.ref 0), some (.ref 54), some (vi x3)] [vi r8, vi r6] μ7 k n
  have h9 := P.1
  have P := P.2
  have h10 := P.1
  have P := P.2
  refine Z_icmp_eq (tgt := 934) (pc' := 283) dL_law_280 (by decide) rfl h9 h10 (fun c11 => ?_) (fun c11 => ?_)
  · have P := P.1 c11
    exact P
  · have P := P.2 c11
    refine Z_iconst (pc' := 284) dL_law_283 rfl ?_
    exact Z_zreturn dL_law_284 rfl (Or.inl rfl) h3 h4 P
theorem bL_law_285 {X : zX} {d : Nat} {Q : Int → zMem → Prop} {μ : zMem} {k n : Nat} {x3 : Int} {sL : Nat} {sf : Nat → Int32} (hX : X = some (sL, sf)) (hsL : sL ≤ 2147483647) (P : (0 ≤ (x3 + 1)) ∧ (((x3 + 1) < sL) ∧ ((0 ≤ (x3 + 2)) ∧ (((x3 + 2) < sL) ∧ ((k ≤ 600000) ∧ ((n ≤ 7302250) ∧ (kX7_isFree d ((sf (x3 + 1).toNat).toInt) ((sf (x3 + 2).toNat).toInt) μ (fun (r8 : Int) (μ7 : zMem) => kX8_isFree d ((sf (x3 + 1).toNat).toInt) ((sf (x3 + 2).toNat).toInt) μ7 (fun (r10 : Int) (μ9 : zMem) => (zIn r8) ∧ ((zIn r10) ∧ ((r8 = r10 → (zL_law_934 X d Q x3 μ9 k n)) ∧ (¬ (r8 = r10) → (Q 0 μ9))))))))))))) : zL_law_285 X d Q x3 μ k n := by
  refine Z_aload_n (pc' := 286) dL_law_285 rfl rfl ?_
  refine Z_aload_nS (pc' := 287) dL_law_286 rfl rfl ?_
  refine Z_iload_n (pc' := 288) dL_law_287 rfl rfl ?_
  refine Z_iconst (pc' := 289) dL_law_288 rfl ?_
  refine Z_iadd (pc' := 290) dL_law_289 rfl ?_
  have h1 := P.1
  have P := P.2
  have h2 := P.1
  have P := P.2
  refine Z_sld (pc' := 291) hX dL_law_290 rfl hsL h1 h2 ?_
  refine Z_aload_nS (pc' := 292) dL_law_291 rfl rfl ?_
  refine Z_iload_n (pc' := 293) dL_law_292 rfl rfl ?_
  refine Z_iconst (pc' := 294) dL_law_293 rfl ?_
  refine Z_iadd (pc' := 295) dL_law_294 rfl ?_
  have h3 := P.1
  have P := P.2
  have h4 := P.1
  have P := P.2
  refine Z_sld (pc' := 296) hX dL_law_295 rfl hsL h3 h4 ?_
  have h5 := P.1
  have P := P.2
  have h6 := P.1
  have P := P.2
  refine Z_callV0 (M' := mX7_isFree) (pc' := 299) (st := []) [vi ((sf (x3 + 1).toNat).toInt), vi ((sf (x3 + 2).toNat).toInt)] dL_law_296 rfl vX7_isFree lL_28 (Or.inl dd_0) rfl (Nat.le_of_ble_eq_true rfl) h5 h6 ?_
  refine Cl_mono P ?_
  rintro _ μ7 ⟨r8, rfl, P⟩
  show Z SS X mL_law (d + 1) 600000 7302250 (qI Q) 299 [some (.float 0), some (.ref 0), some (.ref 54), some (vi x3)] [vi r8] μ7 k n
  refine Z_aload_n (pc' := 300) dL_law_299 rfl rfl ?_
  refine Z_aload_nS (pc' := 301) dL_law_300 rfl rfl ?_
  refine Z_iload_n (pc' := 302) dL_law_301 rfl rfl ?_
  refine Z_iconst (pc' := 303) dL_law_302 rfl ?_
  refine Z_iadd (pc' := 304) dL_law_303 rfl ?_
  refine Z_sld (pc' := 305) hX dL_law_304 rfl hsL h1 h2 ?_
  refine Z_aload_nS (pc' := 306) dL_law_305 rfl rfl ?_
  refine Z_iload_n (pc' := 307) dL_law_306 rfl rfl ?_
  refine Z_iconst (pc' := 308) dL_law_307 rfl ?_
  refine Z_iadd (pc' := 309) dL_law_308 rfl ?_
  refine Z_sld (pc' := 310) hX dL_law_309 rfl hsL h3 h4 ?_
  refine Z_callV0 (M' := mX8_isFree) (pc' := 313) (st := [vi r8]) [vi ((sf (x3 + 1).toNat).toInt), vi ((sf (x3 + 2).toNat).toInt)] dL_law_310 rfl vX8_isFree lL_32 (Or.inl dd_54) rfl (Nat.le_of_ble_eq_true rfl) h5 h6 ?_
  refine Cl_mono P ?_
  rintro _ μ9 ⟨r10, rfl, P⟩
  show Z SS X mL_law (d + 1) 600000 7302250 (qI Q) 313 [some (.float 0), some (.ref 0), some (.ref 54), some (vi x3)] [vi r10, vi r8] μ9 k n
  have h11 := P.1
  have P := P.2
  have h12 := P.1
  have P := P.2
  refine Z_icmp_eq (tgt := 934) (pc' := 316) dL_law_313 (by decide) rfl h11 h12 (fun c13 => ?_) (fun c13 => ?_)
  · have P := P.1 c13
    exact P
  · have P := P.2 c13
    refine Z_iconst (pc' := 317) dL_law_316 rfl ?_
    exact Z_zreturn dL_law_317 rfl (Or.inl rfl) h5 h6 P
theorem bL_law_318 {X : zX} {d : Nat} {Q : Int → zMem → Prop} {μ : zMem} {k n : Nat} {x3 : Int} {sL : Nat} {sf : Nat → Int32} (hX : X = some (sL, sf)) (hsL : sL ≤ 2147483647) (P : (0 ≤ (x3 + 1)) ∧ (((x3 + 1) < sL) ∧ ((0 ≤ (x3 + 2)) ∧ (((x3 + 2) < sL) ∧ ((0 ≤ (x3 + 3)) ∧ (((x3 + 3) < sL) ∧ ((k ≤ 600000) ∧ ((n ≤ 7302250) ∧ (kX7_span d ((sf (x3 + 1).toNat).toInt) ((sf (x3 + 2).toNat).toInt) ((sf (x3 + 3).toNat).toInt) μ (fun (r10 : Int) (μ9 : zMem) => kX8_span d ((sf (x3 + 1).toNat).toInt) ((sf (x3 + 2).toNat).toInt) ((sf (x3 + 3).toNat).toInt) μ9 (fun (r12 : Int) (μ11 : zMem) => (zIn r10) ∧ ((zIn r12) ∧ ((r10 = r12 → (zL_law_934 X d Q x3 μ11 k n)) ∧ (¬ (r10 = r12) → (Q 0 μ11))))))))))))))) : zL_law_318 X d Q x3 μ k n := by
  refine Z_aload_n (pc' := 319) dL_law_318 rfl rfl ?_
  refine Z_aload_nS (pc' := 320) dL_law_319 rfl rfl ?_
  refine Z_iload_n (pc' := 321) dL_law_320 rfl rfl ?_
  refine Z_iconst (pc' := 322) dL_law_321 rfl ?_
  refine Z_iadd (pc' := 323) dL_law_322 rfl ?_
  have h1 := P.1
  have P := P.2
  have h2 := P.1
  have P := P.2
  refine Z_sld (pc' := 324) hX dL_law_323 rfl hsL h1 h2 ?_
  refine Z_aload_nS (pc' := 325) dL_law_324 rfl rfl ?_
  refine Z_iload_n (pc' := 326) dL_law_325 rfl rfl ?_
  refine Z_iconst (pc' := 327) dL_law_326 rfl ?_
  refine Z_iadd (pc' := 328) dL_law_327 rfl ?_
  have h3 := P.1
  have P := P.2
  have h4 := P.1
  have P := P.2
  refine Z_sld (pc' := 329) hX dL_law_328 rfl hsL h3 h4 ?_
  refine Z_aload_nS (pc' := 330) dL_law_329 rfl rfl ?_
  refine Z_iload_n (pc' := 331) dL_law_330 rfl rfl ?_
  refine Z_iconst (pc' := 332) dL_law_331 rfl ?_
  refine Z_iadd (pc' := 333) dL_law_332 rfl ?_
  have h5 := P.1
  have P := P.2
  have h6 := P.1
  have P := P.2
  refine Z_sld (pc' := 334) hX dL_law_333 rfl hsL h5 h6 ?_
  have h7 := P.1
  have P := P.2
  have h8 := P.1
  have P := P.2
  refine Z_callV0 (M' := mX7_span) (pc' := 337) (st := []) [vi ((sf (x3 + 1).toNat).toInt), vi ((sf (x3 + 2).toNat).toInt), vi ((sf (x3 + 3).toNat).toInt)] dL_law_334 rfl vX7_span lL_33 (Or.inl dd_0) rfl (Nat.le_of_ble_eq_true rfl) h7 h8 ?_
  refine Cl_mono P ?_
  rintro _ μ9 ⟨r10, rfl, P⟩
  show Z SS X mL_law (d + 1) 600000 7302250 (qI Q) 337 [some (.float 0), some (.ref 0), some (.ref 54), some (vi x3)] [vi r10] μ9 k n
  refine Z_aload_n (pc' := 338) dL_law_337 rfl rfl ?_
  refine Z_aload_nS (pc' := 339) dL_law_338 rfl rfl ?_
  refine Z_iload_n (pc' := 340) dL_law_339 rfl rfl ?_
  refine Z_iconst (pc' := 341) dL_law_340 rfl ?_
  refine Z_iadd (pc' := 342) dL_law_341 rfl ?_
  refine Z_sld (pc' := 343) hX dL_law_342 rfl hsL h1 h2 ?_
  refine Z_aload_nS (pc' := 344) dL_law_343 rfl rfl ?_
  refine Z_iload_n (pc' := 345) dL_law_344 rfl rfl ?_
  refine Z_iconst (pc' := 346) dL_law_345 rfl ?_
  refine Z_iadd (pc' := 347) dL_law_346 rfl ?_
  refine Z_sld (pc' := 348) hX dL_law_347 rfl hsL h3 h4 ?_
  refine Z_aload_nS (pc' := 349) dL_law_348 rfl rfl ?_
  refine Z_iload_n (pc' := 350) dL_law_349 rfl rfl ?_
  refine Z_iconst (pc' := 351) dL_law_350 rfl ?_
  refine Z_iadd (pc' := 352) dL_law_351 rfl ?_
  refine Z_sld (pc' := 353) hX dL_law_352 rfl hsL h5 h6 ?_
  refine Z_callV0 (M' := mX8_span) (pc' := 356) (st := [vi r10]) [vi ((sf (x3 + 1).toNat).toInt), vi ((sf (x3 + 2).toNat).toInt), vi ((sf (x3 + 3).toNat).toInt)] dL_law_353 rfl vX8_span lL_36 (Or.inl dd_54) rfl (Nat.le_of_ble_eq_true rfl) h7 h8 ?_
  refine Cl_mono P ?_
  rintro _ μ11 ⟨r12, rfl, P⟩
  show Z SS X mL_law (d + 1) 600000 7302250 (qI Q) 356 [some (.float 0), some (.ref 0), some (.ref 54), some (vi x3)] [vi r12, vi r10] μ11 k n
  have h13 := P.1
  have P := P.2
  have h14 := P.1
  have P := P.2
  refine Z_icmp_eq (tgt := 934) (pc' := 359) dL_law_356 (by decide) rfl h13 h14 (fun c15 => ?_) (fun c15 => ?_)
  · have P := P.1 c15
    exact P
  · have P := P.2 c15
    refine Z_iconst (pc' := 360) dL_law_359 rfl ?_
    exact Z_zreturn dL_law_360 rfl (Or.inl rfl) h7 h8 P
theorem bL_law_361 {X : zX} {d : Nat} {Q : Int → zMem → Prop} {μ : zMem} {k n : Nat} {x3 : Int} {sL : Nat} {sf : Nat → Int32} (hX : X = some (sL, sf)) (hsL : sL ≤ 2147483647) (P : (0 ≤ (x3 + 1)) ∧ (((x3 + 1) < sL) ∧ ((0 ≤ (x3 + 2)) ∧ (((x3 + 2) < sL) ∧ ((k ≤ 600000) ∧ ((n ≤ 7302250) ∧ (kX7_addWord d ((sf (x3 + 1).toNat).toInt) ((sf (x3 + 2).toNat).toInt) μ (fun (r8 : Int) (μ7 : zMem) => kX8_addWord d ((sf (x3 + 1).toNat).toInt) ((sf (x3 + 2).toNat).toInt) μ7 (fun (r10 : Int) (μ9 : zMem) => (zIn r8) ∧ ((zIn r10) ∧ ((r8 = r10 → (zL_law_934 X d Q x3 μ9 k n)) ∧ (¬ (r8 = r10) → (Q 0 μ9))))))))))))) : zL_law_361 X d Q x3 μ k n := by
  refine Z_aload_n (pc' := 362) dL_law_361 rfl rfl ?_
  refine Z_aload_nS (pc' := 363) dL_law_362 rfl rfl ?_
  refine Z_iload_n (pc' := 364) dL_law_363 rfl rfl ?_
  refine Z_iconst (pc' := 365) dL_law_364 rfl ?_
  refine Z_iadd (pc' := 366) dL_law_365 rfl ?_
  have h1 := P.1
  have P := P.2
  have h2 := P.1
  have P := P.2
  refine Z_sld (pc' := 367) hX dL_law_366 rfl hsL h1 h2 ?_
  refine Z_aload_nS (pc' := 368) dL_law_367 rfl rfl ?_
  refine Z_iload_n (pc' := 369) dL_law_368 rfl rfl ?_
  refine Z_iconst (pc' := 370) dL_law_369 rfl ?_
  refine Z_iadd (pc' := 371) dL_law_370 rfl ?_
  have h3 := P.1
  have P := P.2
  have h4 := P.1
  have P := P.2
  refine Z_sld (pc' := 372) hX dL_law_371 rfl hsL h3 h4 ?_
  have h5 := P.1
  have P := P.2
  have h6 := P.1
  have P := P.2
  refine Z_callV0 (M' := mX7_addWord) (pc' := 375) (st := []) [vi ((sf (x3 + 1).toNat).toInt), vi ((sf (x3 + 2).toNat).toInt)] dL_law_372 rfl vX7_addWord lL_37 (Or.inl dd_0) rfl (Nat.le_of_ble_eq_true rfl) h5 h6 ?_
  refine Cl_mono P ?_
  rintro _ μ7 ⟨r8, rfl, P⟩
  show Z SS X mL_law (d + 1) 600000 7302250 (qI Q) 375 [some (.float 0), some (.ref 0), some (.ref 54), some (vi x3)] [vi r8] μ7 k n
  refine Z_aload_n (pc' := 376) dL_law_375 rfl rfl ?_
  refine Z_aload_nS (pc' := 377) dL_law_376 rfl rfl ?_
  refine Z_iload_n (pc' := 378) dL_law_377 rfl rfl ?_
  refine Z_iconst (pc' := 379) dL_law_378 rfl ?_
  refine Z_iadd (pc' := 380) dL_law_379 rfl ?_
  refine Z_sld (pc' := 381) hX dL_law_380 rfl hsL h1 h2 ?_
  refine Z_aload_nS (pc' := 382) dL_law_381 rfl rfl ?_
  refine Z_iload_n (pc' := 383) dL_law_382 rfl rfl ?_
  refine Z_iconst (pc' := 384) dL_law_383 rfl ?_
  refine Z_iadd (pc' := 385) dL_law_384 rfl ?_
  refine Z_sld (pc' := 386) hX dL_law_385 rfl hsL h3 h4 ?_
  refine Z_callV0 (M' := mX8_addWord) (pc' := 389) (st := [vi r8]) [vi ((sf (x3 + 1).toNat).toInt), vi ((sf (x3 + 2).toNat).toInt)] dL_law_386 rfl vX8_addWord lL_40 (Or.inl dd_54) rfl (Nat.le_of_ble_eq_true rfl) h5 h6 ?_
  refine Cl_mono P ?_
  rintro _ μ9 ⟨r10, rfl, P⟩
  show Z SS X mL_law (d + 1) 600000 7302250 (qI Q) 389 [some (.float 0), some (.ref 0), some (.ref 54), some (vi x3)] [vi r10, vi r8] μ9 k n
  have h11 := P.1
  have P := P.2
  have h12 := P.1
  have P := P.2
  refine Z_icmp_eq (tgt := 934) (pc' := 392) dL_law_389 (by decide) rfl h11 h12 (fun c13 => ?_) (fun c13 => ?_)
  · have P := P.1 c13
    exact P
  · have P := P.2 c13
    refine Z_iconst (pc' := 393) dL_law_392 rfl ?_
    exact Z_zreturn dL_law_393 rfl (Or.inl rfl) h5 h6 P
theorem bL_law_394 {X : zX} {d : Nat} {Q : Int → zMem → Prop} {μ : zMem} {k n : Nat} {x3 : Int} {sL : Nat} {sf : Nat → Int32} (hX : X = some (sL, sf)) (hsL : sL ≤ 2147483647) (P : (0 ≤ (x3 + 1)) ∧ (((x3 + 1) < sL) ∧ ((0 ≤ (x3 + 2)) ∧ (((x3 + 2) < sL) ∧ ((0 ≤ (x3 + 3)) ∧ (((x3 + 3) < sL) ∧ ((0 ≤ (x3 + 4)) ∧ (((x3 + 4) < sL) ∧ (((zIn ((sf (x3 + 4).toNat).toInt))) ∧ ((k ≤ 600000) ∧ ((n ≤ 7302250) ∧ (kX7_setWord d ((sf (x3 + 1).toNat).toInt) ((sf (x3 + 2).toNat).toInt) ((sf (x3 + 3).toNat).toInt) (if (sf (x3 + 4).toNat).toInt = 0 then 0 else 1) μ (fun (r15 : Int) (μ14 : zMem) => ((zIn ((sf (x3 + 4).toNat).toInt))) ∧ (kX8_setWord d ((sf (x3 + 1).toNat).toInt) ((sf (x3 + 2).toNat).toInt) ((sf (x3 + 3).toNat).toInt) (if (sf (x3 + 4).toNat).toInt = 0 then 0 else 1) μ14 (fun (r20 : Int) (μ19 : zMem) => (zIn r15) ∧ ((zIn r20) ∧ ((r15 = r20 → (zL_law_934 X d Q x3 μ19 k n)) ∧ (¬ (r15 = r20) → (Q 0 μ19))))))))))))))))))) : zL_law_394 X d Q x3 μ k n := by
  refine Z_aload_n (pc' := 395) dL_law_394 rfl rfl ?_
  refine Z_aload_nS (pc' := 396) dL_law_395 rfl rfl ?_
  refine Z_iload_n (pc' := 397) dL_law_396 rfl rfl ?_
  refine Z_iconst (pc' := 398) dL_law_397 rfl ?_
  refine Z_iadd (pc' := 399) dL_law_398 rfl ?_
  have h1 := P.1
  have P := P.2
  have h2 := P.1
  have P := P.2
  refine Z_sld (pc' := 400) hX dL_law_399 rfl hsL h1 h2 ?_
  refine Z_aload_nS (pc' := 401) dL_law_400 rfl rfl ?_
  refine Z_iload_n (pc' := 402) dL_law_401 rfl rfl ?_
  refine Z_iconst (pc' := 403) dL_law_402 rfl ?_
  refine Z_iadd (pc' := 404) dL_law_403 rfl ?_
  have h3 := P.1
  have P := P.2
  have h4 := P.1
  have P := P.2
  refine Z_sld (pc' := 405) hX dL_law_404 rfl hsL h3 h4 ?_
  refine Z_aload_nS (pc' := 406) dL_law_405 rfl rfl ?_
  refine Z_iload_n (pc' := 407) dL_law_406 rfl rfl ?_
  refine Z_iconst (pc' := 408) dL_law_407 rfl ?_
  refine Z_iadd (pc' := 409) dL_law_408 rfl ?_
  have h5 := P.1
  have P := P.2
  have h6 := P.1
  have P := P.2
  refine Z_sld (pc' := 410) hX dL_law_409 rfl hsL h5 h6 ?_
  refine Z_aload_nS (pc' := 411) dL_law_410 rfl rfl ?_
  refine Z_iload_n (pc' := 412) dL_law_411 rfl rfl ?_
  refine Z_iconst (pc' := 413) dL_law_412 rfl ?_
  refine Z_iadd (pc' := 414) dL_law_413 rfl ?_
  have h7 := P.1
  have P := P.2
  have h8 := P.1
  have P := P.2
  refine Z_sld (pc' := 415) hX dL_law_414 rfl hsL h7 h8 ?_
  have K : ∀ t11 : Int, t11 = (if (sf (x3 + 4).toNat).toInt = 0 then 0 else 1) → Z SS X mL_law (d + 1) 600000 7302250 (qI Q) 423 [some (.float 0), some (.ref 0), some (.ref 54), some (vi x3)] [vi t11, vi ((sf (x3 + 3).toNat).toInt), vi ((sf (x3 + 2).toNat).toInt), vi ((sf (x3 + 1).toNat).toInt), .ref 0] μ k n := by
    rintro _ rfl
    have P := P.2
    have h12 := P.1
    have P := P.2
    have h13 := P.1
    have P := P.2
    refine Z_callV0 (M' := mX7_setWord) (pc' := 426) (st := []) [vi ((sf (x3 + 1).toNat).toInt), vi ((sf (x3 + 2).toNat).toInt), vi ((sf (x3 + 3).toNat).toInt), vi (if (sf (x3 + 4).toNat).toInt = 0 then 0 else 1)] dL_law_423 rfl vX7_setWord lL_41 (Or.inl dd_0) rfl (Nat.le_of_ble_eq_true rfl) h12 h13 ?_
    refine Cl_mono P ?_
    rintro _ μ14 ⟨r15, rfl, P⟩
    show Z SS X mL_law (d + 1) 600000 7302250 (qI Q) 426 [some (.float 0), some (.ref 0), some (.ref 54), some (vi x3)] [vi r15] μ14 k n
    refine Z_aload_n (pc' := 427) dL_law_426 rfl rfl ?_
    refine Z_aload_nS (pc' := 428) dL_law_427 rfl rfl ?_
    refine Z_iload_n (pc' := 429) dL_law_428 rfl rfl ?_
    refine Z_iconst (pc' := 430) dL_law_429 rfl ?_
    refine Z_iadd (pc' := 431) dL_law_430 rfl ?_
    refine Z_sld (pc' := 432) hX dL_law_431 rfl hsL h1 h2 ?_
    refine Z_aload_nS (pc' := 433) dL_law_432 rfl rfl ?_
    refine Z_iload_n (pc' := 434) dL_law_433 rfl rfl ?_
    refine Z_iconst (pc' := 435) dL_law_434 rfl ?_
    refine Z_iadd (pc' := 436) dL_law_435 rfl ?_
    refine Z_sld (pc' := 437) hX dL_law_436 rfl hsL h3 h4 ?_
    refine Z_aload_nS (pc' := 438) dL_law_437 rfl rfl ?_
    refine Z_iload_n (pc' := 439) dL_law_438 rfl rfl ?_
    refine Z_iconst (pc' := 440) dL_law_439 rfl ?_
    refine Z_iadd (pc' := 441) dL_law_440 rfl ?_
    refine Z_sld (pc' := 442) hX dL_law_441 rfl hsL h5 h6 ?_
    refine Z_aload_nS (pc' := 443) dL_law_442 rfl rfl ?_
    refine Z_iload_n (pc' := 444) dL_law_443 rfl rfl ?_
    refine Z_iconst (pc' := 445) dL_law_444 rfl ?_
    refine Z_iadd (pc' := 446) dL_law_445 rfl ?_
    refine Z_sld (pc' := 447) hX dL_law_446 rfl hsL h7 h8 ?_
    have K : ∀ t18 : Int, t18 = (if (sf (x3 + 4).toNat).toInt = 0 then 0 else 1) → Z SS X mL_law (d + 1) 600000 7302250 (qI Q) 455 [some (.float 0), some (.ref 0), some (.ref 54), some (vi x3)] [vi t18, vi ((sf (x3 + 3).toNat).toInt), vi ((sf (x3 + 2).toNat).toInt), vi ((sf (x3 + 1).toNat).toInt), .ref 54, vi r15] μ14 k n := by
      rintro _ rfl
      have P := P.2
      refine Z_callV0 (M' := mX8_setWord) (pc' := 458) (st := [vi r15]) [vi ((sf (x3 + 1).toNat).toInt), vi ((sf (x3 + 2).toNat).toInt), vi ((sf (x3 + 3).toNat).toInt), vi (if (sf (x3 + 4).toNat).toInt = 0 then 0 else 1)] dL_law_455 rfl vX8_setWord lL_45 (Or.inl dd_54) rfl (Nat.le_of_ble_eq_true rfl) h12 h13 ?_
      refine Cl_mono P ?_
      rintro _ μ19 ⟨r20, rfl, P⟩
      show Z SS X mL_law (d + 1) 600000 7302250 (qI Q) 458 [some (.float 0), some (.ref 0), some (.ref 54), some (vi x3)] [vi r20, vi r15] μ19 k n
      have h21 := P.1
      have P := P.2
      have h22 := P.1
      have P := P.2
      refine Z_icmp_eq (tgt := 934) (pc' := 461) dL_law_458 (by decide) rfl h21 h22 (fun c23 => ?_) (fun c23 => ?_)
      · have P := P.1 c23
        exact P
      · have P := P.2 c23
        refine Z_iconst (pc' := 462) dL_law_461 rfl ?_
        exact Z_zreturn dL_law_462 rfl (Or.inl rfl) h12 h13 P
    have G := P.1
    have h16 := G
    refine Z_if_eq (tgt := 454) (pc' := 450) dL_law_447 (by decide) rfl h16 (fun c17 => ?_) (fun c17 => ?_)
    · refine Z_iconst (pc' := 455) dL_law_454 rfl ?_
      exact K _ (by rw [if_pos c17])
    · refine Z_iconst (pc' := 451) dL_law_450 rfl ?_
      refine Z_goto (tgt := 455) dL_law_451 (by decide) ?_
      exact K _ (by rw [if_neg c17])
  have G := P.1
  have h9 := G
  refine Z_if_eq (tgt := 422) (pc' := 418) dL_law_415 (by decide) rfl h9 (fun c10 => ?_) (fun c10 => ?_)
  · refine Z_iconst (pc' := 423) dL_law_422 rfl ?_
    exact K _ (by rw [if_pos c10])
  · refine Z_iconst (pc' := 419) dL_law_418 rfl ?_
    refine Z_goto (tgt := 423) dL_law_419 (by decide) ?_
    exact K _ (by rw [if_neg c10])
theorem bL_law_463 {X : zX} {d : Nat} {Q : Int → zMem → Prop} {μ : zMem} {k n : Nat} {x3 : Int} {sL : Nat} {sf : Nat → Int32} (hX : X = some (sL, sf)) (hsL : sL ≤ 2147483647) (P : (k ≤ 600000) ∧ ((n ≤ 7302250) ∧ (kX7_clearWords d μ (fun (r4 : Int) (μ3 : zMem) => kX8_clearWords d μ3 (fun (r6 : Int) (μ5 : zMem) => (zIn r4) ∧ ((zIn r6) ∧ ((r4 = r6 → (zL_law_934 X d Q x3 μ5 k n)) ∧ (¬ (r4 = r6) → (Q 0 μ5))))))))) : zL_law_463 X d Q x3 μ k n := by
  refine Z_aload_n (pc' := 464) dL_law_463 rfl rfl ?_
  have h1 := P.1
  have P := P.2
  have h2 := P.1
  have P := P.2
  refine Z_callV0 (M' := mX7_clearWords) (pc' := 467) (st := []) [] dL_law_464 rfl vX7_clearWords lL_46 (Or.inl dd_0) rfl (Nat.le_of_ble_eq_true rfl) h1 h2 ?_
  refine Cl_mono P ?_
  rintro _ μ3 ⟨r4, rfl, P⟩
  show Z SS X mL_law (d + 1) 600000 7302250 (qI Q) 467 [some (.float 0), some (.ref 0), some (.ref 54), some (vi x3)] [vi r4] μ3 k n
  refine Z_aload_n (pc' := 468) dL_law_467 rfl rfl ?_
  refine Z_callV0 (M' := mX8_clearWords) (pc' := 471) (st := [vi r4]) [] dL_law_468 rfl vX8_clearWords lL_50 (Or.inl dd_54) rfl (Nat.le_of_ble_eq_true rfl) h1 h2 ?_
  refine Cl_mono P ?_
  rintro _ μ5 ⟨r6, rfl, P⟩
  show Z SS X mL_law (d + 1) 600000 7302250 (qI Q) 471 [some (.float 0), some (.ref 0), some (.ref 54), some (vi x3)] [vi r6, vi r4] μ5 k n
  have h7 := P.1
  have P := P.2
  have h8 := P.1
  have P := P.2
  refine Z_icmp_eq (tgt := 934) (pc' := 474) dL_law_471 (by decide) rfl h7 h8 (fun c9 => ?_) (fun c9 => ?_)
  · have P := P.1 c9
    exact P
  · have P := P.2 c9
    refine Z_iconst (pc' := 475) dL_law_474 rfl ?_
    exact Z_zreturn dL_law_475 rfl (Or.inl rfl) h1 h2 P
theorem bL_law_476 {X : zX} {d : Nat} {Q : Int → zMem → Prop} {μ : zMem} {k n : Nat} {x3 : Int} {sL : Nat} {sf : Nat → Int32} (hX : X = some (sL, sf)) (hsL : sL ≤ 2147483647) (P : (0 ≤ (x3 + 1)) ∧ (((x3 + 1) < sL) ∧ ((0 ≤ (x3 + 2)) ∧ (((x3 + 2) < sL) ∧ ((0 ≤ (x3 + 3)) ∧ (((x3 + 3) < sL) ∧ ((0 ≤ (x3 + 4)) ∧ (((x3 + 4) < sL) ∧ ((k ≤ 600000) ∧ ((n ≤ 7302250) ∧ (kX7_setSizes d ((sf (x3 + 1).toNat).toInt) ((sf (x3 + 2).toNat).toInt) ((sf (x3 + 3).toNat).toInt) ((sf (x3 + 4).toNat).toInt) μ (fun (r12 : Int) (μ11 : zMem) => kX8_setSizes d ((sf (x3 + 1).toNat).toInt) ((sf (x3 + 2).toNat).toInt) ((sf (x3 + 3).toNat).toInt) ((sf (x3 + 4).toNat).toInt) μ11 (fun (r14 : Int) (μ13 : zMem) => (zIn r12) ∧ ((zIn r14) ∧ ((r12 = r14 → (zL_law_934 X d Q x3 μ13 k n)) ∧ (¬ (r12 = r14) → (Q 0 μ13))))))))))))))))) : zL_law_476 X d Q x3 μ k n := by
  refine Z_aload_n (pc' := 477) dL_law_476 rfl rfl ?_
  refine Z_aload_nS (pc' := 478) dL_law_477 rfl rfl ?_
  refine Z_iload_n (pc' := 479) dL_law_478 rfl rfl ?_
  refine Z_iconst (pc' := 480) dL_law_479 rfl ?_
  refine Z_iadd (pc' := 481) dL_law_480 rfl ?_
  have h1 := P.1
  have P := P.2
  have h2 := P.1
  have P := P.2
  refine Z_sld (pc' := 482) hX dL_law_481 rfl hsL h1 h2 ?_
  refine Z_aload_nS (pc' := 483) dL_law_482 rfl rfl ?_
  refine Z_iload_n (pc' := 484) dL_law_483 rfl rfl ?_
  refine Z_iconst (pc' := 485) dL_law_484 rfl ?_
  refine Z_iadd (pc' := 486) dL_law_485 rfl ?_
  have h3 := P.1
  have P := P.2
  have h4 := P.1
  have P := P.2
  refine Z_sld (pc' := 487) hX dL_law_486 rfl hsL h3 h4 ?_
  refine Z_aload_nS (pc' := 488) dL_law_487 rfl rfl ?_
  refine Z_iload_n (pc' := 489) dL_law_488 rfl rfl ?_
  refine Z_iconst (pc' := 490) dL_law_489 rfl ?_
  refine Z_iadd (pc' := 491) dL_law_490 rfl ?_
  have h5 := P.1
  have P := P.2
  have h6 := P.1
  have P := P.2
  refine Z_sld (pc' := 492) hX dL_law_491 rfl hsL h5 h6 ?_
  refine Z_aload_nS (pc' := 493) dL_law_492 rfl rfl ?_
  refine Z_iload_n (pc' := 494) dL_law_493 rfl rfl ?_
  refine Z_iconst (pc' := 495) dL_law_494 rfl ?_
  refine Z_iadd (pc' := 496) dL_law_495 rfl ?_
  have h7 := P.1
  have P := P.2
  have h8 := P.1
  have P := P.2
  refine Z_sld (pc' := 497) hX dL_law_496 rfl hsL h7 h8 ?_
  have h9 := P.1
  have P := P.2
  have h10 := P.1
  have P := P.2
  refine Z_callV0 (M' := mX7_setSizes) (pc' := 500) (st := []) [vi ((sf (x3 + 1).toNat).toInt), vi ((sf (x3 + 2).toNat).toInt), vi ((sf (x3 + 3).toNat).toInt), vi ((sf (x3 + 4).toNat).toInt)] dL_law_497 rfl vX7_setSizes lL_51 (Or.inl dd_0) rfl (Nat.le_of_ble_eq_true rfl) h9 h10 ?_
  refine Cl_mono P ?_
  rintro _ μ11 ⟨r12, rfl, P⟩
  show Z SS X mL_law (d + 1) 600000 7302250 (qI Q) 500 [some (.float 0), some (.ref 0), some (.ref 54), some (vi x3)] [vi r12] μ11 k n
  refine Z_aload_n (pc' := 501) dL_law_500 rfl rfl ?_
  refine Z_aload_nS (pc' := 502) dL_law_501 rfl rfl ?_
  refine Z_iload_n (pc' := 503) dL_law_502 rfl rfl ?_
  refine Z_iconst (pc' := 504) dL_law_503 rfl ?_
  refine Z_iadd (pc' := 505) dL_law_504 rfl ?_
  refine Z_sld (pc' := 506) hX dL_law_505 rfl hsL h1 h2 ?_
  refine Z_aload_nS (pc' := 507) dL_law_506 rfl rfl ?_
  refine Z_iload_n (pc' := 508) dL_law_507 rfl rfl ?_
  refine Z_iconst (pc' := 509) dL_law_508 rfl ?_
  refine Z_iadd (pc' := 510) dL_law_509 rfl ?_
  refine Z_sld (pc' := 511) hX dL_law_510 rfl hsL h3 h4 ?_
  refine Z_aload_nS (pc' := 512) dL_law_511 rfl rfl ?_
  refine Z_iload_n (pc' := 513) dL_law_512 rfl rfl ?_
  refine Z_iconst (pc' := 514) dL_law_513 rfl ?_
  refine Z_iadd (pc' := 515) dL_law_514 rfl ?_
  refine Z_sld (pc' := 516) hX dL_law_515 rfl hsL h5 h6 ?_
  refine Z_aload_nS (pc' := 517) dL_law_516 rfl rfl ?_
  refine Z_iload_n (pc' := 518) dL_law_517 rfl rfl ?_
  refine Z_iconst (pc' := 519) dL_law_518 rfl ?_
  refine Z_iadd (pc' := 520) dL_law_519 rfl ?_
  refine Z_sld (pc' := 521) hX dL_law_520 rfl hsL h7 h8 ?_
  refine Z_callV0 (M' := mX8_setSizes) (pc' := 524) (st := [vi r12]) [vi ((sf (x3 + 1).toNat).toInt), vi ((sf (x3 + 2).toNat).toInt), vi ((sf (x3 + 3).toNat).toInt), vi ((sf (x3 + 4).toNat).toInt)] dL_law_521 rfl vX8_setSizes lL_55 (Or.inl dd_54) rfl (Nat.le_of_ble_eq_true rfl) h9 h10 ?_
  refine Cl_mono P ?_
  rintro _ μ13 ⟨r14, rfl, P⟩
  show Z SS X mL_law (d + 1) 600000 7302250 (qI Q) 524 [some (.float 0), some (.ref 0), some (.ref 54), some (vi x3)] [vi r14, vi r12] μ13 k n
  have h15 := P.1
  have P := P.2
  have h16 := P.1
  have P := P.2
  refine Z_icmp_eq (tgt := 934) (pc' := 527) dL_law_524 (by decide) rfl h15 h16 (fun c17 => ?_) (fun c17 => ?_)
  · have P := P.1 c17
    exact P
  · have P := P.2 c17
    refine Z_iconst (pc' := 528) dL_law_527 rfl ?_
    exact Z_zreturn dL_law_528 rfl (Or.inl rfl) h9 h10 P
theorem bL_law_529 {X : zX} {d : Nat} {Q : Int → zMem → Prop} {μ : zMem} {k n : Nat} {x3 : Int} {sL : Nat} {sf : Nat → Int32} (hX : X = some (sL, sf)) (hsL : sL ≤ 2147483647) (P : (0 ≤ (x3 + 1)) ∧ (((x3 + 1) < sL) ∧ ((0 ≤ (x3 + 2)) ∧ (((x3 + 2) < sL) ∧ ((0 ≤ (x3 + 3)) ∧ (((x3 + 3) < sL) ∧ ((0 ≤ (x3 + 4)) ∧ (((x3 + 4) < sL) ∧ ((k ≤ 600000) ∧ ((n ≤ 7302250) ∧ (kX7_setLines d ((sf (x3 + 1).toNat).toInt) ((sf (x3 + 2).toNat).toInt) ((sf (x3 + 3).toNat).toInt) ((sf (x3 + 4).toNat).toInt) μ (fun (r12 : Int) (μ11 : zMem) => kX8_setLines d ((sf (x3 + 1).toNat).toInt) ((sf (x3 + 2).toNat).toInt) ((sf (x3 + 3).toNat).toInt) ((sf (x3 + 4).toNat).toInt) μ11 (fun (r14 : Int) (μ13 : zMem) => (zIn r12) ∧ ((zIn r14) ∧ ((r12 = r14 → (zL_law_934 X d Q x3 μ13 k n)) ∧ (¬ (r12 = r14) → (Q 0 μ13))))))))))))))))) : zL_law_529 X d Q x3 μ k n := by
  refine Z_aload_n (pc' := 530) dL_law_529 rfl rfl ?_
  refine Z_aload_nS (pc' := 531) dL_law_530 rfl rfl ?_
  refine Z_iload_n (pc' := 532) dL_law_531 rfl rfl ?_
  refine Z_iconst (pc' := 533) dL_law_532 rfl ?_
  refine Z_iadd (pc' := 534) dL_law_533 rfl ?_
  have h1 := P.1
  have P := P.2
  have h2 := P.1
  have P := P.2
  refine Z_sld (pc' := 535) hX dL_law_534 rfl hsL h1 h2 ?_
  refine Z_aload_nS (pc' := 536) dL_law_535 rfl rfl ?_
  refine Z_iload_n (pc' := 537) dL_law_536 rfl rfl ?_
  refine Z_iconst (pc' := 538) dL_law_537 rfl ?_
  refine Z_iadd (pc' := 539) dL_law_538 rfl ?_
  have h3 := P.1
  have P := P.2
  have h4 := P.1
  have P := P.2
  refine Z_sld (pc' := 540) hX dL_law_539 rfl hsL h3 h4 ?_
  refine Z_aload_nS (pc' := 541) dL_law_540 rfl rfl ?_
  refine Z_iload_n (pc' := 542) dL_law_541 rfl rfl ?_
  refine Z_iconst (pc' := 543) dL_law_542 rfl ?_
  refine Z_iadd (pc' := 544) dL_law_543 rfl ?_
  have h5 := P.1
  have P := P.2
  have h6 := P.1
  have P := P.2
  refine Z_sld (pc' := 545) hX dL_law_544 rfl hsL h5 h6 ?_
  refine Z_aload_nS (pc' := 546) dL_law_545 rfl rfl ?_
  refine Z_iload_n (pc' := 547) dL_law_546 rfl rfl ?_
  refine Z_iconst (pc' := 548) dL_law_547 rfl ?_
  refine Z_iadd (pc' := 549) dL_law_548 rfl ?_
  have h7 := P.1
  have P := P.2
  have h8 := P.1
  have P := P.2
  refine Z_sld (pc' := 550) hX dL_law_549 rfl hsL h7 h8 ?_
  have h9 := P.1
  have P := P.2
  have h10 := P.1
  have P := P.2
  refine Z_callV0 (M' := mX7_setLines) (pc' := 553) (st := []) [vi ((sf (x3 + 1).toNat).toInt), vi ((sf (x3 + 2).toNat).toInt), vi ((sf (x3 + 3).toNat).toInt), vi ((sf (x3 + 4).toNat).toInt)] dL_law_550 rfl vX7_setLines lL_56 (Or.inl dd_0) rfl (Nat.le_of_ble_eq_true rfl) h9 h10 ?_
  refine Cl_mono P ?_
  rintro _ μ11 ⟨r12, rfl, P⟩
  show Z SS X mL_law (d + 1) 600000 7302250 (qI Q) 553 [some (.float 0), some (.ref 0), some (.ref 54), some (vi x3)] [vi r12] μ11 k n
  refine Z_aload_n (pc' := 554) dL_law_553 rfl rfl ?_
  refine Z_aload_nS (pc' := 555) dL_law_554 rfl rfl ?_
  refine Z_iload_n (pc' := 556) dL_law_555 rfl rfl ?_
  refine Z_iconst (pc' := 557) dL_law_556 rfl ?_
  refine Z_iadd (pc' := 558) dL_law_557 rfl ?_
  refine Z_sld (pc' := 559) hX dL_law_558 rfl hsL h1 h2 ?_
  refine Z_aload_nS (pc' := 560) dL_law_559 rfl rfl ?_
  refine Z_iload_n (pc' := 561) dL_law_560 rfl rfl ?_
  refine Z_iconst (pc' := 562) dL_law_561 rfl ?_
  refine Z_iadd (pc' := 563) dL_law_562 rfl ?_
  refine Z_sld (pc' := 564) hX dL_law_563 rfl hsL h3 h4 ?_
  refine Z_aload_nS (pc' := 565) dL_law_564 rfl rfl ?_
  refine Z_iload_n (pc' := 566) dL_law_565 rfl rfl ?_
  refine Z_iconst (pc' := 567) dL_law_566 rfl ?_
  refine Z_iadd (pc' := 568) dL_law_567 rfl ?_
  refine Z_sld (pc' := 569) hX dL_law_568 rfl hsL h5 h6 ?_
  refine Z_aload_nS (pc' := 570) dL_law_569 rfl rfl ?_
  refine Z_iload_n (pc' := 571) dL_law_570 rfl rfl ?_
  refine Z_iconst (pc' := 572) dL_law_571 rfl ?_
  refine Z_iadd (pc' := 573) dL_law_572 rfl ?_
  refine Z_sld (pc' := 574) hX dL_law_573 rfl hsL h7 h8 ?_
  refine Z_callV0 (M' := mX8_setLines) (pc' := 577) (st := [vi r12]) [vi ((sf (x3 + 1).toNat).toInt), vi ((sf (x3 + 2).toNat).toInt), vi ((sf (x3 + 3).toNat).toInt), vi ((sf (x3 + 4).toNat).toInt)] dL_law_574 rfl vX8_setLines lL_59 (Or.inl dd_54) rfl (Nat.le_of_ble_eq_true rfl) h9 h10 ?_
  refine Cl_mono P ?_
  rintro _ μ13 ⟨r14, rfl, P⟩
  show Z SS X mL_law (d + 1) 600000 7302250 (qI Q) 577 [some (.float 0), some (.ref 0), some (.ref 54), some (vi x3)] [vi r14, vi r12] μ13 k n
  have h15 := P.1
  have P := P.2
  have h16 := P.1
  have P := P.2
  refine Z_icmp_eq (tgt := 934) (pc' := 580) dL_law_577 (by decide) rfl h15 h16 (fun c17 => ?_) (fun c17 => ?_)
  · have P := P.1 c17
    exact P
  · have P := P.2 c17
    refine Z_iconst (pc' := 581) dL_law_580 rfl ?_
    exact Z_zreturn dL_law_581 rfl (Or.inl rfl) h9 h10 P
theorem bL_law_582 {X : zX} {d : Nat} {Q : Int → zMem → Prop} {μ : zMem} {k n : Nat} {x3 : Int} {sL : Nat} {sf : Nat → Int32} (hX : X = some (sL, sf)) (hsL : sL ≤ 2147483647) (P : (0 ≤ (x3 + 1)) ∧ (((x3 + 1) < sL) ∧ ((k ≤ 600000) ∧ ((n ≤ 7302250) ∧ (kX7_count d ((sf (x3 + 1).toNat).toInt) μ (fun (r6 : Int) (μ5 : zMem) => kX8_count d ((sf (x3 + 1).toNat).toInt) μ5 (fun (r8 : Int) (μ7 : zMem) => (zIn r6) ∧ ((zIn r8) ∧ ((r6 = r8 → (zL_law_934 X d Q x3 μ7 k n)) ∧ (¬ (r6 = r8) → (Q 0 μ7))))))))))) : zL_law_582 X d Q x3 μ k n := by
  refine Z_aload_n (pc' := 583) dL_law_582 rfl rfl ?_
  refine Z_aload_nS (pc' := 584) dL_law_583 rfl rfl ?_
  refine Z_iload_n (pc' := 585) dL_law_584 rfl rfl ?_
  refine Z_iconst (pc' := 586) dL_law_585 rfl ?_
  refine Z_iadd (pc' := 587) dL_law_586 rfl ?_
  have h1 := P.1
  have P := P.2
  have h2 := P.1
  have P := P.2
  refine Z_sld (pc' := 588) hX dL_law_587 rfl hsL h1 h2 ?_
  have h3 := P.1
  have P := P.2
  have h4 := P.1
  have P := P.2
  refine Z_callV0 (M' := mX7_count) (pc' := 591) (st := []) [vi ((sf (x3 + 1).toNat).toInt)] dL_law_588 rfl vX7_count lL_60 (Or.inl dd_0) rfl (Nat.le_of_ble_eq_true rfl) h3 h4 ?_
  refine Cl_mono P ?_
  rintro _ μ5 ⟨r6, rfl, P⟩
  show Z SS X mL_law (d + 1) 600000 7302250 (qI Q) 591 [some (.float 0), some (.ref 0), some (.ref 54), some (vi x3)] [vi r6] μ5 k n
  refine Z_aload_n (pc' := 592) dL_law_591 rfl rfl ?_
  refine Z_aload_nS (pc' := 593) dL_law_592 rfl rfl ?_
  refine Z_iload_n (pc' := 594) dL_law_593 rfl rfl ?_
  refine Z_iconst (pc' := 595) dL_law_594 rfl ?_
  refine Z_iadd (pc' := 596) dL_law_595 rfl ?_
  refine Z_sld (pc' := 597) hX dL_law_596 rfl hsL h1 h2 ?_
  refine Z_callV0 (M' := mX8_count) (pc' := 600) (st := [vi r6]) [vi ((sf (x3 + 1).toNat).toInt)] dL_law_597 rfl vX8_count lL_63 (Or.inl dd_54) rfl (Nat.le_of_ble_eq_true rfl) h3 h4 ?_
  refine Cl_mono P ?_
  rintro _ μ7 ⟨r8, rfl, P⟩
  show Z SS X mL_law (d + 1) 600000 7302250 (qI Q) 600 [some (.float 0), some (.ref 0), some (.ref 54), some (vi x3)] [vi r8, vi r6] μ7 k n
  have h9 := P.1
  have P := P.2
  have h10 := P.1
  have P := P.2
  refine Z_icmp_eq (tgt := 934) (pc' := 603) dL_law_600 (by decide) rfl h9 h10 (fun c11 => ?_) (fun c11 => ?_)
  · have P := P.1 c11
    exact P
  · have P := P.2 c11
    refine Z_iconst (pc' := 604) dL_law_603 rfl ?_
    exact Z_zreturn dL_law_604 rfl (Or.inl rfl) h3 h4 P
theorem bL_law_605 {X : zX} {d : Nat} {Q : Int → zMem → Prop} {μ : zMem} {k n : Nat} {x3 : Int} {sL : Nat} {sf : Nat → Int32} (hX : X = some (sL, sf)) (hsL : sL ≤ 2147483647) (P : (0 ≤ (x3 + 1)) ∧ (((x3 + 1) < sL) ∧ ((0 ≤ (x3 + 2)) ∧ (((x3 + 2) < sL) ∧ ((k ≤ 600000) ∧ ((n ≤ 7302250) ∧ (kX7_word d ((sf (x3 + 1).toNat).toInt) ((sf (x3 + 2).toNat).toInt) μ (fun (r8 : Int) (μ7 : zMem) => kX8_word d ((sf (x3 + 1).toNat).toInt) ((sf (x3 + 2).toNat).toInt) μ7 (fun (r10 : Int) (μ9 : zMem) => (zIn r8) ∧ ((zIn r10) ∧ ((r8 = r10 → (zL_law_934 X d Q x3 μ9 k n)) ∧ (¬ (r8 = r10) → (Q 0 μ9))))))))))))) : zL_law_605 X d Q x3 μ k n := by
  refine Z_aload_n (pc' := 606) dL_law_605 rfl rfl ?_
  refine Z_aload_nS (pc' := 607) dL_law_606 rfl rfl ?_
  refine Z_iload_n (pc' := 608) dL_law_607 rfl rfl ?_
  refine Z_iconst (pc' := 609) dL_law_608 rfl ?_
  refine Z_iadd (pc' := 610) dL_law_609 rfl ?_
  have h1 := P.1
  have P := P.2
  have h2 := P.1
  have P := P.2
  refine Z_sld (pc' := 611) hX dL_law_610 rfl hsL h1 h2 ?_
  refine Z_aload_nS (pc' := 612) dL_law_611 rfl rfl ?_
  refine Z_iload_n (pc' := 613) dL_law_612 rfl rfl ?_
  refine Z_iconst (pc' := 614) dL_law_613 rfl ?_
  refine Z_iadd (pc' := 615) dL_law_614 rfl ?_
  have h3 := P.1
  have P := P.2
  have h4 := P.1
  have P := P.2
  refine Z_sld (pc' := 616) hX dL_law_615 rfl hsL h3 h4 ?_
  have h5 := P.1
  have P := P.2
  have h6 := P.1
  have P := P.2
  refine Z_callV0 (M' := mX7_word) (pc' := 619) (st := []) [vi ((sf (x3 + 1).toNat).toInt), vi ((sf (x3 + 2).toNat).toInt)] dL_law_616 rfl vX7_word lL_64 (Or.inl dd_0) rfl (Nat.le_of_ble_eq_true rfl) h5 h6 ?_
  refine Cl_mono P ?_
  rintro _ μ7 ⟨r8, rfl, P⟩
  show Z SS X mL_law (d + 1) 600000 7302250 (qI Q) 619 [some (.float 0), some (.ref 0), some (.ref 54), some (vi x3)] [vi r8] μ7 k n
  refine Z_aload_n (pc' := 620) dL_law_619 rfl rfl ?_
  refine Z_aload_nS (pc' := 621) dL_law_620 rfl rfl ?_
  refine Z_iload_n (pc' := 622) dL_law_621 rfl rfl ?_
  refine Z_iconst (pc' := 623) dL_law_622 rfl ?_
  refine Z_iadd (pc' := 624) dL_law_623 rfl ?_
  refine Z_sld (pc' := 625) hX dL_law_624 rfl hsL h1 h2 ?_
  refine Z_aload_nS (pc' := 626) dL_law_625 rfl rfl ?_
  refine Z_iload_n (pc' := 627) dL_law_626 rfl rfl ?_
  refine Z_iconst (pc' := 628) dL_law_627 rfl ?_
  refine Z_iadd (pc' := 629) dL_law_628 rfl ?_
  refine Z_sld (pc' := 630) hX dL_law_629 rfl hsL h3 h4 ?_
  refine Z_callV0 (M' := mX8_word) (pc' := 633) (st := [vi r8]) [vi ((sf (x3 + 1).toNat).toInt), vi ((sf (x3 + 2).toNat).toInt)] dL_law_630 rfl vX8_word lL_67 (Or.inl dd_54) rfl (Nat.le_of_ble_eq_true rfl) h5 h6 ?_
  refine Cl_mono P ?_
  rintro _ μ9 ⟨r10, rfl, P⟩
  show Z SS X mL_law (d + 1) 600000 7302250 (qI Q) 633 [some (.float 0), some (.ref 0), some (.ref 54), some (vi x3)] [vi r10, vi r8] μ9 k n
  have h11 := P.1
  have P := P.2
  have h12 := P.1
  have P := P.2
  refine Z_icmp_eq (tgt := 934) (pc' := 636) dL_law_633 (by decide) rfl h11 h12 (fun c13 => ?_) (fun c13 => ?_)
  · have P := P.1 c13
    exact P
  · have P := P.2 c13
    refine Z_iconst (pc' := 637) dL_law_636 rfl ?_
    exact Z_zreturn dL_law_637 rfl (Or.inl rfl) h5 h6 P
theorem bL_law_638 {X : zX} {d : Nat} {Q : Int → zMem → Prop} {μ : zMem} {k n : Nat} {x3 : Int} {sL : Nat} {sf : Nat → Int32} (hX : X = some (sL, sf)) (hsL : sL ≤ 2147483647) (P : (0 ≤ (x3 + 1)) ∧ (((x3 + 1) < sL) ∧ ((k ≤ 600000) ∧ ((n ≤ 7302250) ∧ (kX7_cost d ((sf (x3 + 1).toNat).toInt) μ (fun (r6 : Int) (μ5 : zMem) => kX8_cost d ((sf (x3 + 1).toNat).toInt) μ5 (fun (r8 : Int) (μ7 : zMem) => (zIn r6) ∧ ((zIn r8) ∧ ((r6 = r8 → (zL_law_934 X d Q x3 μ7 k n)) ∧ (¬ (r6 = r8) → (Q 0 μ7))))))))))) : zL_law_638 X d Q x3 μ k n := by
  refine Z_aload_n (pc' := 639) dL_law_638 rfl rfl ?_
  refine Z_aload_nS (pc' := 640) dL_law_639 rfl rfl ?_
  refine Z_iload_n (pc' := 641) dL_law_640 rfl rfl ?_
  refine Z_iconst (pc' := 642) dL_law_641 rfl ?_
  refine Z_iadd (pc' := 643) dL_law_642 rfl ?_
  have h1 := P.1
  have P := P.2
  have h2 := P.1
  have P := P.2
  refine Z_sld (pc' := 644) hX dL_law_643 rfl hsL h1 h2 ?_
  have h3 := P.1
  have P := P.2
  have h4 := P.1
  have P := P.2
  refine Z_callV0 (M' := mX7_cost) (pc' := 647) (st := []) [vi ((sf (x3 + 1).toNat).toInt)] dL_law_644 rfl vX7_cost lL_68 (Or.inl dd_0) rfl (Nat.le_of_ble_eq_true rfl) h3 h4 ?_
  refine Cl_mono P ?_
  rintro _ μ5 ⟨r6, rfl, P⟩
  show Z SS X mL_law (d + 1) 600000 7302250 (qI Q) 647 [some (.float 0), some (.ref 0), some (.ref 54), some (vi x3)] [vi r6] μ5 k n
  refine Z_aload_n (pc' := 648) dL_law_647 rfl rfl ?_
  refine Z_aload_nS (pc' := 649) dL_law_648 rfl rfl ?_
  refine Z_iload_n (pc' := 650) dL_law_649 rfl rfl ?_
  refine Z_iconst (pc' := 651) dL_law_650 rfl ?_
  refine Z_iadd (pc' := 652) dL_law_651 rfl ?_
  refine Z_sld (pc' := 653) hX dL_law_652 rfl hsL h1 h2 ?_
  refine Z_callV0 (M' := mX8_cost) (pc' := 656) (st := [vi r6]) [vi ((sf (x3 + 1).toNat).toInt)] dL_law_653 rfl vX8_cost lL_71 (Or.inl dd_54) rfl (Nat.le_of_ble_eq_true rfl) h3 h4 ?_
  refine Cl_mono P ?_
  rintro _ μ7 ⟨r8, rfl, P⟩
  show Z SS X mL_law (d + 1) 600000 7302250 (qI Q) 656 [some (.float 0), some (.ref 0), some (.ref 54), some (vi x3)] [vi r8, vi r6] μ7 k n
  have h9 := P.1
  have P := P.2
  have h10 := P.1
  have P := P.2
  refine Z_icmp_eq (tgt := 934) (pc' := 659) dL_law_656 (by decide) rfl h9 h10 (fun c11 => ?_) (fun c11 => ?_)
  · have P := P.1 c11
    exact P
  · have P := P.2 c11
    refine Z_iconst (pc' := 660) dL_law_659 rfl ?_
    exact Z_zreturn dL_law_660 rfl (Or.inl rfl) h3 h4 P
theorem bL_law_661 {X : zX} {d : Nat} {Q : Int → zMem → Prop} {μ : zMem} {k n : Nat} {x3 : Int} {sL : Nat} {sf : Nat → Int32} (hX : X = some (sL, sf)) (hsL : sL ≤ 2147483647) (P : (k ≤ 600000) ∧ ((n ≤ 7302250) ∧ (kX7_fit d μ (fun (r4 : Int) (μ3 : zMem) => kX8_fit d μ3 (fun (r6 : Int) (μ5 : zMem) => (zIn r4) ∧ ((zIn r6) ∧ ((r4 = r6 → (zL_law_934 X d Q x3 μ5 k n)) ∧ (¬ (r4 = r6) → (Q 0 μ5))))))))) : zL_law_661 X d Q x3 μ k n := by
  refine Z_aload_n (pc' := 662) dL_law_661 rfl rfl ?_
  have h1 := P.1
  have P := P.2
  have h2 := P.1
  have P := P.2
  refine Z_callV0 (M' := mX7_fit) (pc' := 665) (st := []) [] dL_law_662 rfl vX7_fit lL_72 (Or.inl dd_0) rfl (Nat.le_of_ble_eq_true rfl) h1 h2 ?_
  refine Cl_mono P ?_
  rintro _ μ3 ⟨r4, rfl, P⟩
  show Z SS X mL_law (d + 1) 600000 7302250 (qI Q) 665 [some (.float 0), some (.ref 0), some (.ref 54), some (vi x3)] [vi r4] μ3 k n
  refine Z_aload_n (pc' := 666) dL_law_665 rfl rfl ?_
  refine Z_callV0 (M' := mX8_fit) (pc' := 669) (st := [vi r4]) [] dL_law_666 rfl vX8_fit lL_75 (Or.inl dd_54) rfl (Nat.le_of_ble_eq_true rfl) h1 h2 ?_
  refine Cl_mono P ?_
  rintro _ μ5 ⟨r6, rfl, P⟩
  show Z SS X mL_law (d + 1) 600000 7302250 (qI Q) 669 [some (.float 0), some (.ref 0), some (.ref 54), some (vi x3)] [vi r6, vi r4] μ5 k n
  have h7 := P.1
  have P := P.2
  have h8 := P.1
  have P := P.2
  refine Z_icmp_eq (tgt := 934) (pc' := 672) dL_law_669 (by decide) rfl h7 h8 (fun c9 => ?_) (fun c9 => ?_)
  · have P := P.1 c9
    exact P
  · have P := P.2 c9
    refine Z_iconst (pc' := 673) dL_law_672 rfl ?_
    exact Z_zreturn dL_law_673 rfl (Or.inl rfl) h1 h2 P
theorem bL_law_674 {X : zX} {d : Nat} {Q : Int → zMem → Prop} {μ : zMem} {k n : Nat} {x3 : Int} {sL : Nat} {sf : Nat → Int32} (hX : X = some (sL, sf)) (hsL : sL ≤ 2147483647) (P : (0 ≤ (x3 + 1)) ∧ (((x3 + 1) < sL) ∧ ((k ≤ 600000) ∧ ((n ≤ 7302250) ∧ (kX7_allowed d ((sf (x3 + 1).toNat).toInt) μ (fun (r6 : Int) (μ5 : zMem) => kX8_allowed d ((sf (x3 + 1).toNat).toInt) μ5 (fun (r8 : Int) (μ7 : zMem) => (zIn r6) ∧ ((zIn r8) ∧ ((r6 = r8 → (zL_law_934 X d Q x3 μ7 k n)) ∧ (¬ (r6 = r8) → (Q 0 μ7))))))))))) : zL_law_674 X d Q x3 μ k n := by
  refine Z_aload_n (pc' := 675) dL_law_674 rfl rfl ?_
  refine Z_aload_nS (pc' := 676) dL_law_675 rfl rfl ?_
  refine Z_iload_n (pc' := 677) dL_law_676 rfl rfl ?_
  refine Z_iconst (pc' := 678) dL_law_677 rfl ?_
  refine Z_iadd (pc' := 679) dL_law_678 rfl ?_
  have h1 := P.1
  have P := P.2
  have h2 := P.1
  have P := P.2
  refine Z_sld (pc' := 680) hX dL_law_679 rfl hsL h1 h2 ?_
  have h3 := P.1
  have P := P.2
  have h4 := P.1
  have P := P.2
  refine Z_callV0 (M' := mX7_allowed) (pc' := 683) (st := []) [vi ((sf (x3 + 1).toNat).toInt)] dL_law_680 rfl vX7_allowed lL_76 (Or.inl dd_0) rfl (Nat.le_of_ble_eq_true rfl) h3 h4 ?_
  refine Cl_mono P ?_
  rintro _ μ5 ⟨r6, rfl, P⟩
  show Z SS X mL_law (d + 1) 600000 7302250 (qI Q) 683 [some (.float 0), some (.ref 0), some (.ref 54), some (vi x3)] [vi r6] μ5 k n
  refine Z_aload_n (pc' := 684) dL_law_683 rfl rfl ?_
  refine Z_aload_nS (pc' := 685) dL_law_684 rfl rfl ?_
  refine Z_iload_n (pc' := 686) dL_law_685 rfl rfl ?_
  refine Z_iconst (pc' := 687) dL_law_686 rfl ?_
  refine Z_iadd (pc' := 688) dL_law_687 rfl ?_
  refine Z_sld (pc' := 689) hX dL_law_688 rfl hsL h1 h2 ?_
  refine Z_callV0 (M' := mX8_allowed) (pc' := 692) (st := [vi r6]) [vi ((sf (x3 + 1).toNat).toInt)] dL_law_689 rfl vX8_allowed lL_79 (Or.inl dd_54) rfl (Nat.le_of_ble_eq_true rfl) h3 h4 ?_
  refine Cl_mono P ?_
  rintro _ μ7 ⟨r8, rfl, P⟩
  show Z SS X mL_law (d + 1) 600000 7302250 (qI Q) 692 [some (.float 0), some (.ref 0), some (.ref 54), some (vi x3)] [vi r8, vi r6] μ7 k n
  have h9 := P.1
  have P := P.2
  have h10 := P.1
  have P := P.2
  refine Z_icmp_eq (tgt := 934) (pc' := 695) dL_law_692 (by decide) rfl h9 h10 (fun c11 => ?_) (fun c11 => ?_)
  · have P := P.1 c11
    exact P
  · have P := P.2 c11
    refine Z_iconst (pc' := 696) dL_law_695 rfl ?_
    exact Z_zreturn dL_law_696 rfl (Or.inl rfl) h3 h4 P
theorem bL_law_697 {X : zX} {d : Nat} {Q : Int → zMem → Prop} {μ : zMem} {k n : Nat} {x3 : Int} {sL : Nat} {sf : Nat → Int32} (hX : X = some (sL, sf)) (hsL : sL ≤ 2147483647) (P : (0 ≤ (x3 + 1)) ∧ (((x3 + 1) < sL) ∧ ((k + 4 ≤ 600000) ∧ ((n + 178 ≤ 7302250) ∧ (kX7_take d ((sf (x3 + 1).toNat).toInt) μ (fun (r6 : Int) (μ5 : zMem) => ((k + 4) ≤ 600000) ∧ (((n + 178) ≤ 7302250) ∧ (kX8_take d ((sf (x3 + 1).toNat).toInt) μ5 (fun (r10 : Int) (μ9 : zMem) => (zIn r6) ∧ ((zIn r10) ∧ ((r6 = r10 → (zL_law_934 X d Q x3 μ9 (k + 4) (n + 178))) ∧ (¬ (r6 = r10) → (Q 0 μ9))))))))))))) : zL_law_697 X d Q x3 μ k n := by
  refine Z_aload_n (pc' := 698) dL_law_697 rfl rfl ?_
  refine Z_aload_nS (pc' := 699) dL_law_698 rfl rfl ?_
  refine Z_iload_n (pc' := 700) dL_law_699 rfl rfl ?_
  refine Z_iconst (pc' := 701) dL_law_700 rfl ?_
  refine Z_iadd (pc' := 702) dL_law_701 rfl ?_
  have h1 := P.1
  have P := P.2
  have h2 := P.1
  have P := P.2
  refine Z_sld (pc' := 703) hX dL_law_702 rfl hsL h1 h2 ?_
  have h3 := P.1
  have P := P.2
  have h4 := P.1
  have P := P.2
  refine Z_callV (M' := mX7_take) (pc' := 706) (st := []) [vi ((sf (x3 + 1).toNat).toInt)] dL_law_703 rfl vX7_take lL_80 (Or.inl dd_0) rfl (Nat.le_of_ble_eq_true rfl) h3 h4 ?_
  refine Cl_mono P ?_
  rintro _ μ5 ⟨r6, rfl, P⟩
  show Z SS X mL_law (d + 1) 600000 7302250 (qI Q) 706 [some (.float 0), some (.ref 0), some (.ref 54), some (vi x3)] [vi r6] μ5 (k + 4) (n + 178)
  refine Z_aload_n (pc' := 707) dL_law_706 rfl rfl ?_
  refine Z_aload_nS (pc' := 708) dL_law_707 rfl rfl ?_
  refine Z_iload_n (pc' := 709) dL_law_708 rfl rfl ?_
  refine Z_iconst (pc' := 710) dL_law_709 rfl ?_
  refine Z_iadd (pc' := 711) dL_law_710 rfl ?_
  refine Z_sld (pc' := 712) hX dL_law_711 rfl hsL h1 h2 ?_
  have h7 := P.1
  have P := P.2
  have h8 := P.1
  have P := P.2
  refine Z_callV0 (M' := mX8_take) (pc' := 715) (st := [vi r6]) [vi ((sf (x3 + 1).toNat).toInt)] dL_law_712 rfl vX8_take lL_83 (Or.inl dd_54) rfl (Nat.le_of_ble_eq_true rfl) h7 h8 ?_
  refine Cl_mono P ?_
  rintro _ μ9 ⟨r10, rfl, P⟩
  show Z SS X mL_law (d + 1) 600000 7302250 (qI Q) 715 [some (.float 0), some (.ref 0), some (.ref 54), some (vi x3)] [vi r10, vi r6] μ9 (k + 4) (n + 178)
  have h11 := P.1
  have P := P.2
  have h12 := P.1
  have P := P.2
  refine Z_icmp_eq (tgt := 934) (pc' := 718) dL_law_715 (by decide) rfl h11 h12 (fun c13 => ?_) (fun c13 => ?_)
  · have P := P.1 c13
    exact P
  · have P := P.2 c13
    refine Z_iconst (pc' := 719) dL_law_718 rfl ?_
    exact Z_zreturn dL_law_719 rfl (Or.inl rfl) h7 h8 P
theorem bL_law_720 {X : zX} {d : Nat} {Q : Int → zMem → Prop} {μ : zMem} {k n : Nat} {x3 : Int} {sL : Nat} {sf : Nat → Int32} (hX : X = some (sL, sf)) (hsL : sL ≤ 2147483647) (P : (0 ≤ (x3 + 1)) ∧ (((x3 + 1) < sL) ∧ ((k ≤ 600000) ∧ ((n ≤ 7302250) ∧ (kX7_widestStep d ((sf (x3 + 1).toNat).toInt) μ (fun (r6 : Int) (μ5 : zMem) => kX8_widestStep d ((sf (x3 + 1).toNat).toInt) μ5 (fun (r8 : Int) (μ7 : zMem) => (zIn r6) ∧ ((zIn r8) ∧ ((r6 = r8 → (zL_law_934 X d Q x3 μ7 k n)) ∧ (¬ (r6 = r8) → (Q 0 μ7))))))))))) : zL_law_720 X d Q x3 μ k n := by
  refine Z_aload_n (pc' := 721) dL_law_720 rfl rfl ?_
  refine Z_aload_nS (pc' := 722) dL_law_721 rfl rfl ?_
  refine Z_iload_n (pc' := 723) dL_law_722 rfl rfl ?_
  refine Z_iconst (pc' := 724) dL_law_723 rfl ?_
  refine Z_iadd (pc' := 725) dL_law_724 rfl ?_
  have h1 := P.1
  have P := P.2
  have h2 := P.1
  have P := P.2
  refine Z_sld (pc' := 726) hX dL_law_725 rfl hsL h1 h2 ?_
  have h3 := P.1
  have P := P.2
  have h4 := P.1
  have P := P.2
  refine Z_callV0 (M' := mX7_widestStep) (pc' := 729) (st := []) [vi ((sf (x3 + 1).toNat).toInt)] dL_law_726 rfl vX7_widestStep lL_84 (Or.inl dd_0) rfl (Nat.le_of_ble_eq_true rfl) h3 h4 ?_
  refine Cl_mono P ?_
  rintro _ μ5 ⟨r6, rfl, P⟩
  show Z SS X mL_law (d + 1) 600000 7302250 (qI Q) 729 [some (.float 0), some (.ref 0), some (.ref 54), some (vi x3)] [vi r6] μ5 k n
  refine Z_aload_n (pc' := 730) dL_law_729 rfl rfl ?_
  refine Z_aload_nS (pc' := 731) dL_law_730 rfl rfl ?_
  refine Z_iload_n (pc' := 732) dL_law_731 rfl rfl ?_
  refine Z_iconst (pc' := 733) dL_law_732 rfl ?_
  refine Z_iadd (pc' := 734) dL_law_733 rfl ?_
  refine Z_sld (pc' := 735) hX dL_law_734 rfl hsL h1 h2 ?_
  refine Z_callV0 (M' := mX8_widestStep) (pc' := 738) (st := [vi r6]) [vi ((sf (x3 + 1).toNat).toInt)] dL_law_735 rfl vX8_widestStep lL_87 (Or.inl dd_54) rfl (Nat.le_of_ble_eq_true rfl) h3 h4 ?_
  refine Cl_mono P ?_
  rintro _ μ7 ⟨r8, rfl, P⟩
  show Z SS X mL_law (d + 1) 600000 7302250 (qI Q) 738 [some (.float 0), some (.ref 0), some (.ref 54), some (vi x3)] [vi r8, vi r6] μ7 k n
  have h9 := P.1
  have P := P.2
  have h10 := P.1
  have P := P.2
  refine Z_icmp_eq (tgt := 934) (pc' := 741) dL_law_738 (by decide) rfl h9 h10 (fun c11 => ?_) (fun c11 => ?_)
  · have P := P.1 c11
    exact P
  · have P := P.2 c11
    refine Z_iconst (pc' := 742) dL_law_741 rfl ?_
    exact Z_zreturn dL_law_742 rfl (Or.inl rfl) h3 h4 P
theorem bL_law_743 {X : zX} {d : Nat} {Q : Int → zMem → Prop} {μ : zMem} {k n : Nat} {x3 : Int} {sL : Nat} {sf : Nat → Int32} (hX : X = some (sL, sf)) (hsL : sL ≤ 2147483647) (P : (k ≤ 600000) ∧ ((n ≤ 7302250) ∧ (kX7_tightestLimit d μ (fun (r4 : Int) (μ3 : zMem) => kX8_tightestLimit d μ3 (fun (r6 : Int) (μ5 : zMem) => (zIn r4) ∧ ((zIn r6) ∧ ((r4 = r6 → (zL_law_934 X d Q x3 μ5 k n)) ∧ (¬ (r4 = r6) → (Q 0 μ5))))))))) : zL_law_743 X d Q x3 μ k n := by
  refine Z_aload_n (pc' := 744) dL_law_743 rfl rfl ?_
  have h1 := P.1
  have P := P.2
  have h2 := P.1
  have P := P.2
  refine Z_callV0 (M' := mX7_tightestLimit) (pc' := 747) (st := []) [] dL_law_744 rfl vX7_tightestLimit lL_88 (Or.inl dd_0) rfl (Nat.le_of_ble_eq_true rfl) h1 h2 ?_
  refine Cl_mono P ?_
  rintro _ μ3 ⟨r4, rfl, P⟩
  show Z SS X mL_law (d + 1) 600000 7302250 (qI Q) 747 [some (.float 0), some (.ref 0), some (.ref 54), some (vi x3)] [vi r4] μ3 k n
  refine Z_aload_n (pc' := 748) dL_law_747 rfl rfl ?_
  refine Z_callV0 (M' := mX8_tightestLimit) (pc' := 751) (st := [vi r4]) [] dL_law_748 rfl vX8_tightestLimit lL_91 (Or.inl dd_54) rfl (Nat.le_of_ble_eq_true rfl) h1 h2 ?_
  refine Cl_mono P ?_
  rintro _ μ5 ⟨r6, rfl, P⟩
  show Z SS X mL_law (d + 1) 600000 7302250 (qI Q) 751 [some (.float 0), some (.ref 0), some (.ref 54), some (vi x3)] [vi r6, vi r4] μ5 k n
  have h7 := P.1
  have P := P.2
  have h8 := P.1
  have P := P.2
  refine Z_icmp_eq (tgt := 934) (pc' := 754) dL_law_751 (by decide) rfl h7 h8 (fun c9 => ?_) (fun c9 => ?_)
  · have P := P.1 c9
    exact P
  · have P := P.2 c9
    refine Z_iconst (pc' := 755) dL_law_754 rfl ?_
    exact Z_zreturn dL_law_755 rfl (Or.inl rfl) h1 h2 P
theorem bL_law_756 {X : zX} {d : Nat} {Q : Int → zMem → Prop} {μ : zMem} {k n : Nat} {x3 : Int} {sL : Nat} {sf : Nat → Int32} (hX : X = some (sL, sf)) (hsL : sL ≤ 2147483647) (P : (0 ≤ (x3 + 1)) ∧ (((x3 + 1) < sL) ∧ ((k ≤ 600000) ∧ ((n ≤ 7302250) ∧ (kX7_layout d ((sf (x3 + 1).toNat).toInt) μ (fun (r6 : Int) (μ5 : zMem) => kX8_layout d ((sf (x3 + 1).toNat).toInt) μ5 (fun (r8 : Int) (μ7 : zMem) => (zIn r6) ∧ ((zIn r8) ∧ ((r6 = r8 → (zL_law_934 X d Q x3 μ7 k n)) ∧ (¬ (r6 = r8) → (Q 0 μ7))))))))))) : zL_law_756 X d Q x3 μ k n := by
  refine Z_aload_n (pc' := 757) dL_law_756 rfl rfl ?_
  refine Z_aload_nS (pc' := 758) dL_law_757 rfl rfl ?_
  refine Z_iload_n (pc' := 759) dL_law_758 rfl rfl ?_
  refine Z_iconst (pc' := 760) dL_law_759 rfl ?_
  refine Z_iadd (pc' := 761) dL_law_760 rfl ?_
  have h1 := P.1
  have P := P.2
  have h2 := P.1
  have P := P.2
  refine Z_sld (pc' := 762) hX dL_law_761 rfl hsL h1 h2 ?_
  have h3 := P.1
  have P := P.2
  have h4 := P.1
  have P := P.2
  refine Z_callV0 (M' := mX7_layout) (pc' := 765) (st := []) [vi ((sf (x3 + 1).toNat).toInt)] dL_law_762 rfl vX7_layout lL_92 (Or.inl dd_0) rfl (Nat.le_of_ble_eq_true rfl) h3 h4 ?_
  refine Cl_mono P ?_
  rintro _ μ5 ⟨r6, rfl, P⟩
  show Z SS X mL_law (d + 1) 600000 7302250 (qI Q) 765 [some (.float 0), some (.ref 0), some (.ref 54), some (vi x3)] [vi r6] μ5 k n
  refine Z_aload_n (pc' := 766) dL_law_765 rfl rfl ?_
  refine Z_aload_nS (pc' := 767) dL_law_766 rfl rfl ?_
  refine Z_iload_n (pc' := 768) dL_law_767 rfl rfl ?_
  refine Z_iconst (pc' := 769) dL_law_768 rfl ?_
  refine Z_iadd (pc' := 770) dL_law_769 rfl ?_
  refine Z_sld (pc' := 771) hX dL_law_770 rfl hsL h1 h2 ?_
  refine Z_callV0 (M' := mX8_layout) (pc' := 774) (st := [vi r6]) [vi ((sf (x3 + 1).toNat).toInt)] dL_law_771 rfl vX8_layout lL_95 (Or.inl dd_54) rfl (Nat.le_of_ble_eq_true rfl) h3 h4 ?_
  refine Cl_mono P ?_
  rintro _ μ7 ⟨r8, rfl, P⟩
  show Z SS X mL_law (d + 1) 600000 7302250 (qI Q) 774 [some (.float 0), some (.ref 0), some (.ref 54), some (vi x3)] [vi r8, vi r6] μ7 k n
  have h9 := P.1
  have P := P.2
  have h10 := P.1
  have P := P.2
  refine Z_icmp_eq (tgt := 934) (pc' := 777) dL_law_774 (by decide) rfl h9 h10 (fun c11 => ?_) (fun c11 => ?_)
  · have P := P.1 c11
    exact P
  · have P := P.2 c11
    refine Z_iconst (pc' := 778) dL_law_777 rfl ?_
    exact Z_zreturn dL_law_778 rfl (Or.inl rfl) h3 h4 P
theorem bL_law_779 {X : zX} {d : Nat} {Q : Int → zMem → Prop} {μ : zMem} {k n : Nat} {x3 : Int} {sL : Nat} {sf : Nat → Int32} (hX : X = some (sL, sf)) (hsL : sL ≤ 2147483647) (P : (0 ≤ (x3 + 1)) ∧ (((x3 + 1) < sL) ∧ ((0 ≤ (x3 + 2)) ∧ (((x3 + 2) < sL) ∧ ((k ≤ 600000) ∧ ((n ≤ 7302250) ∧ (kX7_line d ((sf (x3 + 1).toNat).toInt) ((sf (x3 + 2).toNat).toInt) μ (fun (r8 : Int) (μ7 : zMem) => kX8_line d ((sf (x3 + 1).toNat).toInt) ((sf (x3 + 2).toNat).toInt) μ7 (fun (r10 : Int) (μ9 : zMem) => (zIn r8) ∧ ((zIn r10) ∧ ((r8 = r10 → (zL_law_934 X d Q x3 μ9 k n)) ∧ (¬ (r8 = r10) → (Q 0 μ9))))))))))))) : zL_law_779 X d Q x3 μ k n := by
  refine Z_aload_n (pc' := 780) dL_law_779 rfl rfl ?_
  refine Z_aload_nS (pc' := 781) dL_law_780 rfl rfl ?_
  refine Z_iload_n (pc' := 782) dL_law_781 rfl rfl ?_
  refine Z_iconst (pc' := 783) dL_law_782 rfl ?_
  refine Z_iadd (pc' := 784) dL_law_783 rfl ?_
  have h1 := P.1
  have P := P.2
  have h2 := P.1
  have P := P.2
  refine Z_sld (pc' := 785) hX dL_law_784 rfl hsL h1 h2 ?_
  refine Z_aload_nS (pc' := 786) dL_law_785 rfl rfl ?_
  refine Z_iload_n (pc' := 787) dL_law_786 rfl rfl ?_
  refine Z_iconst (pc' := 788) dL_law_787 rfl ?_
  refine Z_iadd (pc' := 789) dL_law_788 rfl ?_
  have h3 := P.1
  have P := P.2
  have h4 := P.1
  have P := P.2
  refine Z_sld (pc' := 790) hX dL_law_789 rfl hsL h3 h4 ?_
  have h5 := P.1
  have P := P.2
  have h6 := P.1
  have P := P.2
  refine Z_callV0 (M' := mX7_line) (pc' := 793) (st := []) [vi ((sf (x3 + 1).toNat).toInt), vi ((sf (x3 + 2).toNat).toInt)] dL_law_790 rfl vX7_line lL_96 (Or.inl dd_0) rfl (Nat.le_of_ble_eq_true rfl) h5 h6 ?_
  refine Cl_mono P ?_
  rintro _ μ7 ⟨r8, rfl, P⟩
  show Z SS X mL_law (d + 1) 600000 7302250 (qI Q) 793 [some (.float 0), some (.ref 0), some (.ref 54), some (vi x3)] [vi r8] μ7 k n
  refine Z_aload_n (pc' := 794) dL_law_793 rfl rfl ?_
  refine Z_aload_nS (pc' := 795) dL_law_794 rfl rfl ?_
  refine Z_iload_n (pc' := 796) dL_law_795 rfl rfl ?_
  refine Z_iconst (pc' := 797) dL_law_796 rfl ?_
  refine Z_iadd (pc' := 798) dL_law_797 rfl ?_
  refine Z_sld (pc' := 799) hX dL_law_798 rfl hsL h1 h2 ?_
  refine Z_aload_nS (pc' := 800) dL_law_799 rfl rfl ?_
  refine Z_iload_n (pc' := 801) dL_law_800 rfl rfl ?_
  refine Z_iconst (pc' := 802) dL_law_801 rfl ?_
  refine Z_iadd (pc' := 803) dL_law_802 rfl ?_
  refine Z_sld (pc' := 804) hX dL_law_803 rfl hsL h3 h4 ?_
  refine Z_callV0 (M' := mX8_line) (pc' := 807) (st := [vi r8]) [vi ((sf (x3 + 1).toNat).toInt), vi ((sf (x3 + 2).toNat).toInt)] dL_law_804 rfl vX8_line lL_99 (Or.inl dd_54) rfl (Nat.le_of_ble_eq_true rfl) h5 h6 ?_
  refine Cl_mono P ?_
  rintro _ μ9 ⟨r10, rfl, P⟩
  show Z SS X mL_law (d + 1) 600000 7302250 (qI Q) 807 [some (.float 0), some (.ref 0), some (.ref 54), some (vi x3)] [vi r10, vi r8] μ9 k n
  have h11 := P.1
  have P := P.2
  have h12 := P.1
  have P := P.2
  refine Z_icmp_eq (tgt := 934) (pc' := 810) dL_law_807 (by decide) rfl h11 h12 (fun c13 => ?_) (fun c13 => ?_)
  · have P := P.1 c13
    exact P
  · have P := P.2 c13
    refine Z_iconst (pc' := 811) dL_law_810 rfl ?_
    exact Z_zreturn dL_law_811 rfl (Or.inl rfl) h5 h6 P
theorem bL_law_812 {X : zX} {d : Nat} {Q : Int → zMem → Prop} {μ : zMem} {k n : Nat} {x3 : Int} {sL : Nat} {sf : Nat → Int32} (hX : X = some (sL, sf)) (hsL : sL ≤ 2147483647) (P : (0 ≤ (x3 + 1)) ∧ (((x3 + 1) < sL) ∧ ((0 ≤ (x3 + 2)) ∧ (((x3 + 2) < sL) ∧ ((k ≤ 600000) ∧ ((n ≤ 7302250) ∧ (kX7_placed d ((sf (x3 + 1).toNat).toInt) ((sf (x3 + 2).toNat).toInt) μ (fun (r8 : Int) (μ7 : zMem) => kX8_placed d ((sf (x3 + 1).toNat).toInt) ((sf (x3 + 2).toNat).toInt) μ7 (fun (r10 : Int) (μ9 : zMem) => (zIn r8) ∧ ((zIn r10) ∧ ((r8 = r10 → (zL_law_934 X d Q x3 μ9 k n)) ∧ (¬ (r8 = r10) → (Q 0 μ9))))))))))))) : zL_law_812 X d Q x3 μ k n := by
  refine Z_aload_n (pc' := 813) dL_law_812 rfl rfl ?_
  refine Z_aload_nS (pc' := 814) dL_law_813 rfl rfl ?_
  refine Z_iload_n (pc' := 815) dL_law_814 rfl rfl ?_
  refine Z_iconst (pc' := 816) dL_law_815 rfl ?_
  refine Z_iadd (pc' := 817) dL_law_816 rfl ?_
  have h1 := P.1
  have P := P.2
  have h2 := P.1
  have P := P.2
  refine Z_sld (pc' := 818) hX dL_law_817 rfl hsL h1 h2 ?_
  refine Z_aload_nS (pc' := 819) dL_law_818 rfl rfl ?_
  refine Z_iload_n (pc' := 820) dL_law_819 rfl rfl ?_
  refine Z_iconst (pc' := 821) dL_law_820 rfl ?_
  refine Z_iadd (pc' := 822) dL_law_821 rfl ?_
  have h3 := P.1
  have P := P.2
  have h4 := P.1
  have P := P.2
  refine Z_sld (pc' := 823) hX dL_law_822 rfl hsL h3 h4 ?_
  have h5 := P.1
  have P := P.2
  have h6 := P.1
  have P := P.2
  refine Z_callV0 (M' := mX7_placed) (pc' := 826) (st := []) [vi ((sf (x3 + 1).toNat).toInt), vi ((sf (x3 + 2).toNat).toInt)] dL_law_823 rfl vX7_placed lL_100 (Or.inl dd_0) rfl (Nat.le_of_ble_eq_true rfl) h5 h6 ?_
  refine Cl_mono P ?_
  rintro _ μ7 ⟨r8, rfl, P⟩
  show Z SS X mL_law (d + 1) 600000 7302250 (qI Q) 826 [some (.float 0), some (.ref 0), some (.ref 54), some (vi x3)] [vi r8] μ7 k n
  refine Z_aload_n (pc' := 827) dL_law_826 rfl rfl ?_
  refine Z_aload_nS (pc' := 828) dL_law_827 rfl rfl ?_
  refine Z_iload_n (pc' := 829) dL_law_828 rfl rfl ?_
  refine Z_iconst (pc' := 830) dL_law_829 rfl ?_
  refine Z_iadd (pc' := 831) dL_law_830 rfl ?_
  refine Z_sld (pc' := 832) hX dL_law_831 rfl hsL h1 h2 ?_
  refine Z_aload_nS (pc' := 833) dL_law_832 rfl rfl ?_
  refine Z_iload_n (pc' := 834) dL_law_833 rfl rfl ?_
  refine Z_iconst (pc' := 835) dL_law_834 rfl ?_
  refine Z_iadd (pc' := 836) dL_law_835 rfl ?_
  refine Z_sld (pc' := 837) hX dL_law_836 rfl hsL h3 h4 ?_
  refine Z_callV0 (M' := mX8_placed) (pc' := 840) (st := [vi r8]) [vi ((sf (x3 + 1).toNat).toInt), vi ((sf (x3 + 2).toNat).toInt)] dL_law_837 rfl vX8_placed lL_103 (Or.inl dd_54) rfl (Nat.le_of_ble_eq_true rfl) h5 h6 ?_
  refine Cl_mono P ?_
  rintro _ μ9 ⟨r10, rfl, P⟩
  show Z SS X mL_law (d + 1) 600000 7302250 (qI Q) 840 [some (.float 0), some (.ref 0), some (.ref 54), some (vi x3)] [vi r10, vi r8] μ9 k n
  have h11 := P.1
  have P := P.2
  have h12 := P.1
  have P := P.2
  refine Z_icmp_eq (tgt := 934) (pc' := 843) dL_law_840 (by decide) rfl h11 h12 (fun c13 => ?_) (fun c13 => ?_)
  · have P := P.1 c13
    exact P
  · have P := P.2 c13
    refine Z_iconst (pc' := 844) dL_law_843 rfl ?_
    exact Z_zreturn dL_law_844 rfl (Or.inl rfl) h5 h6 P
theorem bL_law_845 {X : zX} {d : Nat} {Q : Int → zMem → Prop} {μ : zMem} {k n : Nat} {x3 : Int} {sL : Nat} {sf : Nat → Int32} (hX : X = some (sL, sf)) (hsL : sL ≤ 2147483647) (P : (0 ≤ (x3 + 1)) ∧ (((x3 + 1) < sL) ∧ ((k ≤ 600000) ∧ ((n ≤ 7302250) ∧ (kX7_type d ((sf (x3 + 1).toNat).toInt) μ (fun (r6 : Int) (μ5 : zMem) => kX8_type d ((sf (x3 + 1).toNat).toInt) μ5 (fun (r8 : Int) (μ7 : zMem) => (zIn r6) ∧ ((zIn r8) ∧ ((r6 = r8 → (zL_law_934 X d Q x3 μ7 k n)) ∧ (¬ (r6 = r8) → (Q 0 μ7))))))))))) : zL_law_845 X d Q x3 μ k n := by
  refine Z_aload_n (pc' := 846) dL_law_845 rfl rfl ?_
  refine Z_aload_nS (pc' := 847) dL_law_846 rfl rfl ?_
  refine Z_iload_n (pc' := 848) dL_law_847 rfl rfl ?_
  refine Z_iconst (pc' := 849) dL_law_848 rfl ?_
  refine Z_iadd (pc' := 850) dL_law_849 rfl ?_
  have h1 := P.1
  have P := P.2
  have h2 := P.1
  have P := P.2
  refine Z_sld (pc' := 851) hX dL_law_850 rfl hsL h1 h2 ?_
  have h3 := P.1
  have P := P.2
  have h4 := P.1
  have P := P.2
  refine Z_callV0 (M' := mX7_type) (pc' := 854) (st := []) [vi ((sf (x3 + 1).toNat).toInt)] dL_law_851 rfl vX7_type lL_104 (Or.inl dd_0) rfl (Nat.le_of_ble_eq_true rfl) h3 h4 ?_
  refine Cl_mono P ?_
  rintro _ μ5 ⟨r6, rfl, P⟩
  show Z SS X mL_law (d + 1) 600000 7302250 (qI Q) 854 [some (.float 0), some (.ref 0), some (.ref 54), some (vi x3)] [vi r6] μ5 k n
  refine Z_aload_n (pc' := 855) dL_law_854 rfl rfl ?_
  refine Z_aload_nS (pc' := 856) dL_law_855 rfl rfl ?_
  refine Z_iload_n (pc' := 857) dL_law_856 rfl rfl ?_
  refine Z_iconst (pc' := 858) dL_law_857 rfl ?_
  refine Z_iadd (pc' := 859) dL_law_858 rfl ?_
  refine Z_sld (pc' := 860) hX dL_law_859 rfl hsL h1 h2 ?_
  refine Z_callV0 (M' := mX8_type) (pc' := 863) (st := [vi r6]) [vi ((sf (x3 + 1).toNat).toInt)] dL_law_860 rfl vX8_type lL_107 (Or.inl dd_54) rfl (Nat.le_of_ble_eq_true rfl) h3 h4 ?_
  refine Cl_mono P ?_
  rintro _ μ7 ⟨r8, rfl, P⟩
  show Z SS X mL_law (d + 1) 600000 7302250 (qI Q) 863 [some (.float 0), some (.ref 0), some (.ref 54), some (vi x3)] [vi r8, vi r6] μ7 k n
  have h9 := P.1
  have P := P.2
  have h10 := P.1
  have P := P.2
  refine Z_icmp_eq (tgt := 934) (pc' := 866) dL_law_863 (by decide) rfl h9 h10 (fun c11 => ?_) (fun c11 => ?_)
  · have P := P.1 c11
    exact P
  · have P := P.2 c11
    refine Z_iconst (pc' := 867) dL_law_866 rfl ?_
    exact Z_zreturn dL_law_867 rfl (Or.inl rfl) h3 h4 P
theorem bL_law_868 {X : zX} {d : Nat} {Q : Int → zMem → Prop} {μ : zMem} {k n : Nat} {x3 : Int} {sL : Nat} {sf : Nat → Int32} (hX : X = some (sL, sf)) (hsL : sL ≤ 2147483647) (P : (k ≤ 600000) ∧ ((n ≤ 7302250) ∧ (kX7_clearText d μ (fun (r4 : Int) (μ3 : zMem) => kX8_clearText d μ3 (fun (r6 : Int) (μ5 : zMem) => (zIn r4) ∧ ((zIn r6) ∧ ((r4 = r6 → (zL_law_934 X d Q x3 μ5 k n)) ∧ (¬ (r4 = r6) → (Q 0 μ5))))))))) : zL_law_868 X d Q x3 μ k n := by
  refine Z_aload_n (pc' := 869) dL_law_868 rfl rfl ?_
  have h1 := P.1
  have P := P.2
  have h2 := P.1
  have P := P.2
  refine Z_callV0 (M' := mX7_clearText) (pc' := 872) (st := []) [] dL_law_869 rfl vX7_clearText lL_108 (Or.inl dd_0) rfl (Nat.le_of_ble_eq_true rfl) h1 h2 ?_
  refine Cl_mono P ?_
  rintro _ μ3 ⟨r4, rfl, P⟩
  show Z SS X mL_law (d + 1) 600000 7302250 (qI Q) 872 [some (.float 0), some (.ref 0), some (.ref 54), some (vi x3)] [vi r4] μ3 k n
  refine Z_aload_n (pc' := 873) dL_law_872 rfl rfl ?_
  refine Z_callV0 (M' := mX8_clearText) (pc' := 876) (st := [vi r4]) [] dL_law_873 rfl vX8_clearText lL_111 (Or.inl dd_54) rfl (Nat.le_of_ble_eq_true rfl) h1 h2 ?_
  refine Cl_mono P ?_
  rintro _ μ5 ⟨r6, rfl, P⟩
  show Z SS X mL_law (d + 1) 600000 7302250 (qI Q) 876 [some (.float 0), some (.ref 0), some (.ref 54), some (vi x3)] [vi r6, vi r4] μ5 k n
  have h7 := P.1
  have P := P.2
  have h8 := P.1
  have P := P.2
  refine Z_icmp_eq (tgt := 934) (pc' := 879) dL_law_876 (by decide) rfl h7 h8 (fun c9 => ?_) (fun c9 => ?_)
  · have P := P.1 c9
    exact P
  · have P := P.2 c9
    refine Z_iconst (pc' := 880) dL_law_879 rfl ?_
    exact Z_zreturn dL_law_880 rfl (Or.inl rfl) h1 h2 P
theorem bL_law_881 {X : zX} {d : Nat} {Q : Int → zMem → Prop} {μ : zMem} {k n : Nat} {x3 : Int} {sL : Nat} {sf : Nat → Int32} (hX : X = some (sL, sf)) (hsL : sL ≤ 2147483647) (P : (k ≤ 600000) ∧ ((n ≤ 7302250) ∧ (kX7_textFault d μ (fun (r4 : Int) (μ3 : zMem) => kX8_textFault d μ3 (fun (r6 : Int) (μ5 : zMem) => (zIn r4) ∧ ((zIn r6) ∧ ((r4 = r6 → (zL_law_934 X d Q x3 μ5 k n)) ∧ (¬ (r4 = r6) → (Q 0 μ5))))))))) : zL_law_881 X d Q x3 μ k n := by
  refine Z_aload_n (pc' := 882) dL_law_881 rfl rfl ?_
  have h1 := P.1
  have P := P.2
  have h2 := P.1
  have P := P.2
  refine Z_callV0 (M' := mX7_textFault) (pc' := 885) (st := []) [] dL_law_882 rfl vX7_textFault lL_112 (Or.inl dd_0) rfl (Nat.le_of_ble_eq_true rfl) h1 h2 ?_
  refine Cl_mono P ?_
  rintro _ μ3 ⟨r4, rfl, P⟩
  show Z SS X mL_law (d + 1) 600000 7302250 (qI Q) 885 [some (.float 0), some (.ref 0), some (.ref 54), some (vi x3)] [vi r4] μ3 k n
  refine Z_aload_n (pc' := 886) dL_law_885 rfl rfl ?_
  refine Z_callV0 (M' := mX8_textFault) (pc' := 889) (st := [vi r4]) [] dL_law_886 rfl vX8_textFault lL_115 (Or.inl dd_54) rfl (Nat.le_of_ble_eq_true rfl) h1 h2 ?_
  refine Cl_mono P ?_
  rintro _ μ5 ⟨r6, rfl, P⟩
  show Z SS X mL_law (d + 1) 600000 7302250 (qI Q) 889 [some (.float 0), some (.ref 0), some (.ref 54), some (vi x3)] [vi r6, vi r4] μ5 k n
  have h7 := P.1
  have P := P.2
  have h8 := P.1
  have P := P.2
  refine Z_icmp_eq (tgt := 934) (pc' := 892) dL_law_889 (by decide) rfl h7 h8 (fun c9 => ?_) (fun c9 => ?_)
  · have P := P.1 c9
    exact P
  · have P := P.2 c9
    refine Z_iconst (pc' := 893) dL_law_892 rfl ?_
    exact Z_zreturn dL_law_893 rfl (Or.inl rfl) h1 h2 P
theorem bL_law_894 {X : zX} {d : Nat} {Q : Int → zMem → Prop} {μ : zMem} {k n : Nat} {x3 : Int} {sL : Nat} {sf : Nat → Int32} (hX : X = some (sL, sf)) (hsL : sL ≤ 2147483647) (P : (k ≤ 600000) ∧ ((n ≤ 7302250) ∧ (kX7_load d μ (fun (r4 : Int) (μ3 : zMem) => kX8_load d μ3 (fun (r6 : Int) (μ5 : zMem) => (zIn r4) ∧ ((zIn r6) ∧ ((r4 = r6 → (zL_law_934 X d Q x3 μ5 k n)) ∧ (¬ (r4 = r6) → (Q 0 μ5))))))))) : zL_law_894 X d Q x3 μ k n := by
  refine Z_aload_n (pc' := 895) dL_law_894 rfl rfl ?_
  have h1 := P.1
  have P := P.2
  have h2 := P.1
  have P := P.2
  refine Z_callV0 (M' := mX7_load) (pc' := 898) (st := []) [] dL_law_895 rfl vX7_load lL_116 (Or.inl dd_0) rfl (Nat.le_of_ble_eq_true rfl) h1 h2 ?_
  refine Cl_mono P ?_
  rintro _ μ3 ⟨r4, rfl, P⟩
  show Z SS X mL_law (d + 1) 600000 7302250 (qI Q) 898 [some (.float 0), some (.ref 0), some (.ref 54), some (vi x3)] [vi r4] μ3 k n
  refine Z_aload_n (pc' := 899) dL_law_898 rfl rfl ?_
  refine Z_callV0 (M' := mX8_load) (pc' := 902) (st := [vi r4]) [] dL_law_899 rfl vX8_load lL_119 (Or.inl dd_54) rfl (Nat.le_of_ble_eq_true rfl) h1 h2 ?_
  refine Cl_mono P ?_
  rintro _ μ5 ⟨r6, rfl, P⟩
  show Z SS X mL_law (d + 1) 600000 7302250 (qI Q) 902 [some (.float 0), some (.ref 0), some (.ref 54), some (vi x3)] [vi r6, vi r4] μ5 k n
  have h7 := P.1
  have P := P.2
  have h8 := P.1
  have P := P.2
  refine Z_icmp_eq (tgt := 934) (pc' := 905) dL_law_902 (by decide) rfl h7 h8 (fun c9 => ?_) (fun c9 => ?_)
  · have P := P.1 c9
    exact P
  · have P := P.2 c9
    refine Z_iconst (pc' := 906) dL_law_905 rfl ?_
    exact Z_zreturn dL_law_906 rfl (Or.inl rfl) h1 h2 P
theorem bL_law_907 {X : zX} {d : Nat} {Q : Int → zMem → Prop} {μ : zMem} {k n : Nat} {x3 : Int} {sL : Nat} {sf : Nat → Int32} (hX : X = some (sL, sf)) (hsL : sL ≤ 2147483647) (P : (k ≤ 600000) ∧ ((n ≤ 7302250) ∧ (kX7_undo d μ (fun (r4 : Int) (μ3 : zMem) => kX8_undo d μ3 (fun (r6 : Int) (μ5 : zMem) => (zIn r4) ∧ ((zIn r6) ∧ ((r4 = r6 → (zL_law_934 X d Q x3 μ5 k n)) ∧ (¬ (r4 = r6) → (Q 0 μ5))))))))) : zL_law_907 X d Q x3 μ k n := by
  refine Z_aload_n (pc' := 908) dL_law_907 rfl rfl ?_
  have h1 := P.1
  have P := P.2
  have h2 := P.1
  have P := P.2
  refine Z_callV0 (M' := mX7_undo) (pc' := 911) (st := []) [] dL_law_908 rfl vX7_undo lL_120 (Or.inl dd_0) rfl (Nat.le_of_ble_eq_true rfl) h1 h2 ?_
  refine Cl_mono P ?_
  rintro _ μ3 ⟨r4, rfl, P⟩
  show Z SS X mL_law (d + 1) 600000 7302250 (qI Q) 911 [some (.float 0), some (.ref 0), some (.ref 54), some (vi x3)] [vi r4] μ3 k n
  refine Z_aload_n (pc' := 912) dL_law_911 rfl rfl ?_
  refine Z_callV0 (M' := mX8_undo) (pc' := 915) (st := [vi r4]) [] dL_law_912 rfl vX8_undo lL_123 (Or.inl dd_54) rfl (Nat.le_of_ble_eq_true rfl) h1 h2 ?_
  refine Cl_mono P ?_
  rintro _ μ5 ⟨r6, rfl, P⟩
  show Z SS X mL_law (d + 1) 600000 7302250 (qI Q) 915 [some (.float 0), some (.ref 0), some (.ref 54), some (vi x3)] [vi r6, vi r4] μ5 k n
  have h7 := P.1
  have P := P.2
  have h8 := P.1
  have P := P.2
  refine Z_icmp_eq (tgt := 934) (pc' := 918) dL_law_915 (by decide) rfl h7 h8 (fun c9 => ?_) (fun c9 => ?_)
  · have P := P.1 c9
    exact P
  · have P := P.2 c9
    refine Z_iconst (pc' := 919) dL_law_918 rfl ?_
    exact Z_zreturn dL_law_919 rfl (Or.inl rfl) h1 h2 P
theorem bL_law_920 {X : zX} {d : Nat} {Q : Int → zMem → Prop} {μ : zMem} {k n : Nat} {x3 : Int} {sL : Nat} {sf : Nat → Int32} (hX : X = some (sL, sf)) (hsL : sL ≤ 2147483647) (P : (k ≤ 600000) ∧ ((n ≤ 7302250) ∧ (kX7_digest d μ (fun (r4 : Int64) (μ3 : zMem) => kX8_digest d μ3 (fun (r6 : Int64) (μ5 : zMem) => ((zcmp r4 r6) = 0 → (zL_law_934 X d Q x3 μ5 k n)) ∧ (¬ ((zcmp r4 r6) = 0) → (Q 0 μ5))))))) : zL_law_920 X d Q x3 μ k n := by
  refine Z_aload_n (pc' := 921) dL_law_920 rfl rfl ?_
  have h1 := P.1
  have P := P.2
  have h2 := P.1
  have P := P.2
  refine Z_callV0 (M' := mX7_digest) (pc' := 924) (st := []) [] dL_law_921 rfl vX7_digest lL_124 (Or.inl dd_0) rfl (Nat.le_of_ble_eq_true rfl) h1 h2 ?_
  refine Cl_mono P ?_
  rintro _ μ3 ⟨r4, rfl, P⟩
  show Z SS X mL_law (d + 1) 600000 7302250 (qI Q) 924 [some (.float 0), some (.ref 0), some (.ref 54), some (vi x3)] [.long (r4)] μ3 k n
  refine Z_aload_n (pc' := 925) dL_law_924 rfl rfl ?_
  refine Z_callV0 (M' := mX8_digest) (pc' := 928) (st := [.long (r4)]) [] dL_law_925 rfl vX8_digest lL_128 (Or.inl dd_54) rfl (Nat.le_of_ble_eq_true rfl) h1 h2 ?_
  refine Cl_mono P ?_
  rintro _ μ5 ⟨r6, rfl, P⟩
  show Z SS X mL_law (d + 1) 600000 7302250 (qI Q) 928 [some (.float 0), some (.ref 0), some (.ref 54), some (vi x3)] [.long (r6), .long (r4)] μ5 k n
  refine Z_lcmp (pc' := 929) dL_law_928 rfl ?_
  refine Z_if_eq (tgt := 934) (pc' := 932) dL_law_929 (by decide) rfl (zcmp_in _ _) (fun c7 => ?_) (fun c7 => ?_)
  · have P := P.1 c7
    exact P
  · have P := P.2 c7
    refine Z_iconst (pc' := 933) dL_law_932 rfl ?_
    exact Z_zreturn dL_law_933 rfl (Or.inl rfl) h1 h2 P
theorem bL_law_934 {X : zX} {d : Nat} {Q : Int → zMem → Prop} {μ : zMem} {k n : Nat} {x3 : Int} {sL : Nat} {sf : Nat → Int32} (hX : X = some (sL, sf)) (hsL : sL ≤ 2147483647) (P : zL_law_18 X d Q (x3 + 6) μ k n) : zL_law_934 X d Q x3 μ k n := by
  refine Z_iinc (pc' := 937) (lo' := [some (.float 0), some (.ref 0), some (.ref 54), some (vi (x3 + 6))]) dL_law_934 rfl (by decide) rfl rfl ?_
  refine Z_goto (tgt := 18) dL_law_937 (by decide) ?_
  exact P
