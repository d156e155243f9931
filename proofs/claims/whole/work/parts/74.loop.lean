/-! the law's loop: the two go on together, script after script -/
theorem tw {M1 M2 : zMt} {d mc1 ms1 mc2 ms2 : Nat} {as1 as2 : List Value} {μ : zMem} {B : Int} {K : zMem → Prop} {Q : Int → zMem → Prop} (hk : ∀ μ', SIM B μ' → K μ') (h : Cl SS M1 d mc1 ms1 as1 μ (qI (fun r μ1 => Cl SS M2 d mc2 ms2 as2 μ1 (qI (twin B r))))) :
    Cl SS M1 d mc1 ms1 as1 μ (qI (fun r μ1 => Cl SS M2 d mc2 ms2 as2 μ1 (qI (fun r' μ' => (zIn r) ∧ ((zIn r') ∧ ((r = r' → K μ') ∧ (¬ (r = r') → Q 0 μ'))))))) :=
  Cl_mono h (fun _ _ w => w.elim (fun r w => ⟨r, w.1, Cl_mono w.2 (fun _ _ w => w.elim (fun r' w => ⟨r', w.1, w.2.1, w.2.2.1, fun _ => hk _ w.2.2.2.2, fun q => absurd w.2.2.2.1 q⟩))⟩))
/-- the same, where something is said in between -/
theorem tw2 {M1 M2 : zMt} {d mc1 ms1 mc2 ms2 : Nat} {as1 as2 : List Value} {μ : zMem} {B : Int} {K : zMem → Prop} {Q : Int → zMem → Prop} {Y : Prop} (hy : Y) (hk : ∀ μ', SIM B μ' → K μ') (h : Cl SS M1 d mc1 ms1 as1 μ (qI (fun r μ1 => Cl SS M2 d mc2 ms2 as2 μ1 (qI (twin B r))))) :
    Cl SS M1 d mc1 ms1 as1 μ (qI (fun r μ1 => Y ∧ (Cl SS M2 d mc2 ms2 as2 μ1 (qI (fun r' μ' => (zIn r) ∧ ((zIn r') ∧ ((r = r' → K μ') ∧ (¬ (r = r') → Q 0 μ')))))))) :=
  Cl_mono (tw hk h) (fun _ _ w => w.elim (fun r w => ⟨r, w.1, hy, w.2⟩))
theorem tw3 {M1 M2 : zMt} {d mc1 ms1 mc2 ms2 : Nat} {as1 as2 : List Value} {μ : zMem} {B : Int} {K : zMem → Prop} {Q : Int → zMem → Prop} {Y Y' : Prop} (hy : Y) (hy' : Y') (hk : ∀ μ', SIM B μ' → K μ') (h : Cl SS M1 d mc1 ms1 as1 μ (qI (fun r μ1 => Cl SS M2 d mc2 ms2 as2 μ1 (qI (twin B r))))) :
    Cl SS M1 d mc1 ms1 as1 μ (qI (fun r μ1 => Y ∧ (Y' ∧ (Cl SS M2 d mc2 ms2 as2 μ1 (qI (fun r' μ' => (zIn r) ∧ ((zIn r') ∧ ((r = r' → K μ') ∧ (¬ (r = r') → Q 0 μ'))))))))) :=
  Cl_mono (tw hk h) (fun _ _ w => w.elim (fun r w => ⟨r, w.1, hy, hy', w.2⟩))
theorem twL {M1 M2 : zMt} {d mc1 ms1 mc2 ms2 : Nat} {as1 as2 : List Value} {μ : zMem} {B : Int} {K : zMem → Prop} {Q : Int → zMem → Prop} (hk : ∀ μ', SIM B μ' → K μ') (h : Cl SS M1 d mc1 ms1 as1 μ (qL (fun r μ1 => Cl SS M2 d mc2 ms2 as2 μ1 (qL (fun r' μ2 => r = r' ∧ SIM B μ2))))) :
    Cl SS M1 d mc1 ms1 as1 μ (qL (fun r μ1 => Cl SS M2 d mc2 ms2 as2 μ1 (qL (fun r' μ' => ((zcmp r r') = 0 → K μ') ∧ (¬ ((zcmp r r') = 0) → Q 0 μ'))))) :=
  Cl_mono h (fun _ _ w => w.elim (fun r w => ⟨r, w.1, Cl_mono w.2 (fun _ _ w => w.elim (fun r' w => ⟨r', w.1, fun _ => hk _ w.2.2, fun q => absurd ((zcmp_0 r r').mpr w.2.1) q⟩))⟩))
theorem lc_addShape {X : zX} {Q : Int → zMem → Prop} {μ : zMem} {k n sL : Nat} {x3 B : Int} {sf : Nat → Int32} (hX : X = some (sL, sf)) (hsL : sL ≤ 2147483647) (x0 : 0 ≤ x3) (x1 : x3 + 6 ≤ sL) (hB : B ≤ 2000000000) (h : SIM B μ) (kb : k ≤ 600000) (nb : n ≤ 7302250) (hk : ∀ μ', SIM (B + 2) μ' → zL_law_934 X 40 Q x3 μ' k n) : zL_law_156 X 40 Q x3 μ k n :=
  bL_law_156 hX hsL ⟨by omega, by omega, by omega, by omega, by omega, by omega, by omega, by omega, by omega, by omega, by omega, by omega, tw hk (sim_addShape (d := 36) (e := 38) (z_in_toInt _) (z_in_toInt _) (z_in_toInt _) (z_in_toInt _) (z_in_toInt _) h)⟩
theorem lc_moveShape {X : zX} {Q : Int → zMem → Prop} {μ : zMem} {k n sL : Nat} {x3 B : Int} {sf : Nat → Int32} (hX : X = some (sL, sf)) (hsL : sL ≤ 2147483647) (x0 : 0 ≤ x3) (x1 : x3 + 6 ≤ sL) (hB : B ≤ 2000000000) (h : SIM B μ) (kb : k ≤ 600000) (nb : n ≤ 7302250) (hk : ∀ μ', SIM (B + 2) μ' → zL_law_934 X 40 Q x3 μ' k n) : zL_law_219 X 40 Q x3 μ k n :=
  bL_law_219 hX hsL ⟨by omega, by omega, by omega, by omega, by omega, by omega, by omega, by omega, tw hk (sim_moveShape (d := 36) (e := 36) (z_in_toInt _) (z_in_toInt _) (z_in_toInt _) h)⟩
theorem lc_removeShape {X : zX} {Q : Int → zMem → Prop} {μ : zMem} {k n sL : Nat} {x3 B : Int} {sf : Nat → Int32} (hX : X = some (sL, sf)) (hsL : sL ≤ 2147483647) (x0 : 0 ≤ x3) (x1 : x3 + 6 ≤ sL) (hB : B ≤ 2000000000) (h : SIM B μ) (kb : k ≤ 600000) (nb : n ≤ 7302250) (hk : ∀ μ', SIM (B + 2) μ' → zL_law_934 X 40 Q x3 μ' k n) : zL_law_262 X 40 Q x3 μ k n :=
  bL_law_262 hX hsL ⟨by omega, by omega, by omega, by omega, tw hk (sim_removeShape (d := 36) (e := 38) (z_in_toInt _) h)⟩
theorem lc_isFree {X : zX} {Q : Int → zMem → Prop} {μ : zMem} {k n sL : Nat} {x3 B : Int} {sf : Nat → Int32} (hX : X = some (sL, sf)) (hsL : sL ≤ 2147483647) (x0 : 0 ≤ x3) (x1 : x3 + 6 ≤ sL) (hB : B ≤ 2000000000) (h : SIM B μ) (kb : k ≤ 600000) (nb : n ≤ 7302250) (hk : ∀ μ', SIM B μ' → zL_law_934 X 40 Q x3 μ' k n) : zL_law_285 X 40 Q x3 μ k n :=
  bL_law_285 hX hsL ⟨by omega, by omega, by omega, by omega, by omega, by omega, tw hk (sim_isFree (d := 39) (e := 37) (z_in_toInt _) (z_in_toInt _) h)⟩
theorem lc_span {X : zX} {Q : Int → zMem → Prop} {μ : zMem} {k n sL : Nat} {x3 B : Int} {sf : Nat → Int32} (hX : X = some (sL, sf)) (hsL : sL ≤ 2147483647) (x0 : 0 ≤ x3) (x1 : x3 + 6 ≤ sL) (hB : B ≤ 2000000000) (h : SIM B μ) (kb : k ≤ 600000) (nb : n ≤ 7302250) (hk : ∀ μ', SIM B μ' → zL_law_934 X 40 Q x3 μ' k n) : zL_law_318 X 40 Q x3 μ k n :=
  bL_law_318 hX hsL ⟨by omega, by omega, by omega, by omega, by omega, by omega, by omega, by omega, tw hk (sim_span (d := 38) (e := 36) hB (z_in_toInt _) (z_in_toInt _) (z_in_toInt _) h)⟩
theorem lc_addWord {X : zX} {Q : Int → zMem → Prop} {μ : zMem} {k n sL : Nat} {x3 B : Int} {sf : Nat → Int32} (hX : X = some (sL, sf)) (hsL : sL ≤ 2147483647) (x0 : 0 ≤ x3) (x1 : x3 + 6 ≤ sL) (hB : B ≤ 2000000000) (h : SIM B μ) (kb : k ≤ 600000) (nb : n ≤ 7302250) (hk : ∀ μ', SIM (B + 2) μ' → zL_law_934 X 40 Q x3 μ' k n) : zL_law_361 X 40 Q x3 μ k n :=
  bL_law_361 hX hsL ⟨by omega, by omega, by omega, by omega, by omega, by omega, tw hk (sim_addWord (d := 36) (e := 38) (z_in_toInt _) (z_in_toInt _) h)⟩
theorem lc_setWord {X : zX} {Q : Int → zMem → Prop} {μ : zMem} {k n sL : Nat} {x3 B : Int} {sf : Nat → Int32} (hX : X = some (sL, sf)) (hsL : sL ≤ 2147483647) (x0 : 0 ≤ x3) (x1 : x3 + 6 ≤ sL) (hB : B ≤ 2000000000) (h : SIM B μ) (kb : k ≤ 600000) (nb : n ≤ 7302250) (hk : ∀ μ', SIM (B + 2) μ' → zL_law_934 X 40 Q x3 μ' k n) : zL_law_394 X 40 Q x3 μ k n :=
  bL_law_394 hX hsL ⟨by omega, by omega, by omega, by omega, by omega, by omega, by omega, by omega, z_in_toInt _, by omega, by omega, tw2 (z_in_toInt _) hk (sim_setWord (d := 36) (e := 38) (z_in_toInt _) (z_in_toInt _) (z_in_toInt _) (by split <;> exact z_lit rfl) h)⟩
theorem lc_clearWords {X : zX} {Q : Int → zMem → Prop} {μ : zMem} {k n sL : Nat} {x3 B : Int} {sf : Nat → Int32} (hX : X = some (sL, sf)) (hsL : sL ≤ 2147483647) (x0 : 0 ≤ x3) (x1 : x3 + 6 ≤ sL) (hB : B ≤ 2000000000) (h : SIM B μ) (kb : k ≤ 600000) (nb : n ≤ 7302250) (hk : ∀ μ', SIM (B + 2) μ' → zL_law_934 X 40 Q x3 μ' k n) : zL_law_463 X 40 Q x3 μ k n :=
  bL_law_463 hX hsL ⟨by omega, by omega, tw hk (sim_clearWords (d := 36) (e := 38)  h)⟩
theorem lc_setSizes {X : zX} {Q : Int → zMem → Prop} {μ : zMem} {k n sL : Nat} {x3 B : Int} {sf : Nat → Int32} (hX : X = some (sL, sf)) (hsL : sL ≤ 2147483647) (x0 : 0 ≤ x3) (x1 : x3 + 6 ≤ sL) (hB : B ≤ 2000000000) (h : SIM B μ) (kb : k ≤ 600000) (nb : n ≤ 7302250) (hk : ∀ μ', SIM (B + 2) μ' → zL_law_934 X 40 Q x3 μ' k n) : zL_law_476 X 40 Q x3 μ k n :=
  bL_law_476 hX hsL ⟨by omega, by omega, by omega, by omega, by omega, by omega, by omega, by omega, by omega, by omega, tw hk (sim_setSizes (d := 36) (e := 38) (z_in_toInt _) (z_in_toInt _) (z_in_toInt _) (z_in_toInt _) h)⟩
theorem lc_setLines {X : zX} {Q : Int → zMem → Prop} {μ : zMem} {k n sL : Nat} {x3 B : Int} {sf : Nat → Int32} (hX : X = some (sL, sf)) (hsL : sL ≤ 2147483647) (x0 : 0 ≤ x3) (x1 : x3 + 6 ≤ sL) (hB : B ≤ 2000000000) (h : SIM B μ) (kb : k ≤ 600000) (nb : n ≤ 7302250) (hk : ∀ μ', SIM (B + 2) μ' → zL_law_934 X 40 Q x3 μ' k n) : zL_law_529 X 40 Q x3 μ k n :=
  bL_law_529 hX hsL ⟨by omega, by omega, by omega, by omega, by omega, by omega, by omega, by omega, by omega, by omega, tw hk (sim_setLines (d := 36) (e := 38) (z_in_toInt _) (z_in_toInt _) (z_in_toInt _) (z_in_toInt _) h)⟩
theorem lc_count {X : zX} {Q : Int → zMem → Prop} {μ : zMem} {k n sL : Nat} {x3 B : Int} {sf : Nat → Int32} (hX : X = some (sL, sf)) (hsL : sL ≤ 2147483647) (x0 : 0 ≤ x3) (x1 : x3 + 6 ≤ sL) (hB : B ≤ 2000000000) (h : SIM B μ) (kb : k ≤ 600000) (nb : n ≤ 7302250) (hk : ∀ μ', SIM B μ' → zL_law_934 X 40 Q x3 μ' k n) : zL_law_582 X 40 Q x3 μ k n :=
  bL_law_582 hX hsL ⟨by omega, by omega, by omega, by omega, tw hk (sim_count (d := 38) (e := 36) (z_in_toInt _) h)⟩
theorem lc_word {X : zX} {Q : Int → zMem → Prop} {μ : zMem} {k n sL : Nat} {x3 B : Int} {sf : Nat → Int32} (hX : X = some (sL, sf)) (hsL : sL ≤ 2147483647) (x0 : 0 ≤ x3) (x1 : x3 + 6 ≤ sL) (hB : B ≤ 2000000000) (h : SIM B μ) (kb : k ≤ 600000) (nb : n ≤ 7302250) (hk : ∀ μ', SIM B μ' → zL_law_934 X 40 Q x3 μ' k n) : zL_law_605 X 40 Q x3 μ k n :=
  bL_law_605 hX hsL ⟨by omega, by omega, by omega, by omega, by omega, by omega, tw hk (sim_word (d := 39) (e := 38) (z_in_toInt _) (z_in_toInt _) h)⟩
theorem lc_cost {X : zX} {Q : Int → zMem → Prop} {μ : zMem} {k n sL : Nat} {x3 B : Int} {sf : Nat → Int32} (hX : X = some (sL, sf)) (hsL : sL ≤ 2147483647) (x0 : 0 ≤ x3) (x1 : x3 + 6 ≤ sL) (hB : B ≤ 2000000000) (h : SIM B μ) (kb : k ≤ 600000) (nb : n ≤ 7302250) (hk : ∀ μ', SIM B μ' → zL_law_934 X 40 Q x3 μ' k n) : zL_law_638 X 40 Q x3 μ k n :=
  bL_law_638 hX hsL ⟨by omega, by omega, by omega, by omega, tw hk (sim_cost (d := 6) (e := 34) hB (z_in_toInt _) h)⟩
theorem lc_fit {X : zX} {Q : Int → zMem → Prop} {μ : zMem} {k n sL : Nat} {x3 B : Int} {sf : Nat → Int32} (hX : X = some (sL, sf)) (hsL : sL ≤ 2147483647) (x0 : 0 ≤ x3) (x1 : x3 + 6 ≤ sL) (hB : B ≤ 2000000000) (h : SIM B μ) (kb : k ≤ 600000) (nb : n ≤ 7302250) (hk : ∀ μ', SIM B μ' → zL_law_934 X 40 Q x3 μ' k n) : zL_law_661 X 40 Q x3 μ k n :=
  bL_law_661 hX hsL ⟨by omega, by omega, tw hk (sim_fit (d := 5) (e := 33) hB h)⟩
theorem lc_allowed {X : zX} {Q : Int → zMem → Prop} {μ : zMem} {k n sL : Nat} {x3 B : Int} {sf : Nat → Int32} (hX : X = some (sL, sf)) (hsL : sL ≤ 2147483647) (x0 : 0 ≤ x3) (x1 : x3 + 6 ≤ sL) (hB : B ≤ 2000000000) (h : SIM B μ) (kb : k ≤ 600000) (nb : n ≤ 7302250) (hk : ∀ μ', SIM B μ' → zL_law_934 X 40 Q x3 μ' k n) : zL_law_674 X 40 Q x3 μ k n :=
  bL_law_674 hX hsL ⟨by omega, by omega, by omega, by omega, tw hk (sim_allowed (d := 6) (e := 34) hB (z_in_toInt _) h)⟩
theorem lc_take {X : zX} {Q : Int → zMem → Prop} {μ : zMem} {k n sL : Nat} {x3 B : Int} {sf : Nat → Int32} (hX : X = some (sL, sf)) (hsL : sL ≤ 2147483647) (x0 : 0 ≤ x3) (x1 : x3 + 6 ≤ sL) (hB : B ≤ 2000000000) (h : SIM B μ) (kb : k + 4 ≤ 600000) (nb : n + 178 ≤ 7302250) (hk : ∀ μ', SIM (B + 2) μ' → zL_law_934 X 40 Q x3 μ' (k + 4) (n + 178)) : zL_law_697 X 40 Q x3 μ k n :=
  bL_law_697 hX hsL ⟨by omega, by omega, by omega, by omega, tw3 (by omega) (by omega) hk (sim_take (d := 5) (e := 33) hB (z_in_toInt _) h)⟩
theorem lc_widestStep {X : zX} {Q : Int → zMem → Prop} {μ : zMem} {k n sL : Nat} {x3 B : Int} {sf : Nat → Int32} (hX : X = some (sL, sf)) (hsL : sL ≤ 2147483647) (x0 : 0 ≤ x3) (x1 : x3 + 6 ≤ sL) (hB : B ≤ 2000000000) (h : SIM B μ) (kb : k ≤ 600000) (nb : n ≤ 7302250) (hk : ∀ μ', SIM B μ' → zL_law_934 X 40 Q x3 μ' k n) : zL_law_720 X 40 Q x3 μ k n :=
  bL_law_720 hX hsL ⟨by omega, by omega, by omega, by omega, tw hk (sim_widestStep (d := 6) (e := 34) hB (z_in_toInt _) h)⟩
theorem lc_tightestLimit {X : zX} {Q : Int → zMem → Prop} {μ : zMem} {k n sL : Nat} {x3 B : Int} {sf : Nat → Int32} (hX : X = some (sL, sf)) (hsL : sL ≤ 2147483647) (x0 : 0 ≤ x3) (x1 : x3 + 6 ≤ sL) (hB : B ≤ 2000000000) (h : SIM B μ) (kb : k ≤ 600000) (nb : n ≤ 7302250) (hk : ∀ μ', SIM B μ' → zL_law_934 X 40 Q x3 μ' k n) : zL_law_743 X 40 Q x3 μ k n :=
  bL_law_743 hX hsL ⟨by omega, by omega, tw hk (sim_tightestLimit (d := 5) (e := 33) hB h)⟩
theorem lc_layout {X : zX} {Q : Int → zMem → Prop} {μ : zMem} {k n sL : Nat} {x3 B : Int} {sf : Nat → Int32} (hX : X = some (sL, sf)) (hsL : sL ≤ 2147483647) (x0 : 0 ≤ x3) (x1 : x3 + 6 ≤ sL) (hB : B ≤ 2000000000) (h : SIM B μ) (kb : k ≤ 600000) (nb : n ≤ 7302250) (hk : ∀ μ', SIM B μ' → zL_law_934 X 40 Q x3 μ' k n) : zL_law_756 X 40 Q x3 μ k n :=
  bL_law_756 hX hsL ⟨by omega, by omega, by omega, by omega, tw hk (sim_layout (d := 39) (e := 39) (z_in_toInt _) h)⟩
theorem lc_line {X : zX} {Q : Int → zMem → Prop} {μ : zMem} {k n sL : Nat} {x3 B : Int} {sf : Nat → Int32} (hX : X = some (sL, sf)) (hsL : sL ≤ 2147483647) (x0 : 0 ≤ x3) (x1 : x3 + 6 ≤ sL) (hB : B ≤ 2000000000) (h : SIM B μ) (kb : k ≤ 600000) (nb : n ≤ 7302250) (hk : ∀ μ', SIM B μ' → zL_law_934 X 40 Q x3 μ' k n) : zL_law_779 X 40 Q x3 μ k n :=
  bL_law_779 hX hsL ⟨by omega, by omega, by omega, by omega, by omega, by omega, tw hk (sim_line (d := 39) (e := 39) (z_in_toInt _) (z_in_toInt _) h)⟩
theorem lc_placed {X : zX} {Q : Int → zMem → Prop} {μ : zMem} {k n sL : Nat} {x3 B : Int} {sf : Nat → Int32} (hX : X = some (sL, sf)) (hsL : sL ≤ 2147483647) (x0 : 0 ≤ x3) (x1 : x3 + 6 ≤ sL) (hB : B ≤ 2000000000) (h : SIM B μ) (kb : k ≤ 600000) (nb : n ≤ 7302250) (hk : ∀ μ', SIM B μ' → zL_law_934 X 40 Q x3 μ' k n) : zL_law_812 X 40 Q x3 μ k n :=
  bL_law_812 hX hsL ⟨by omega, by omega, by omega, by omega, by omega, by omega, tw hk (sim_placed (d := 39) (e := 39) (z_in_toInt _) (z_in_toInt _) h)⟩
theorem lc_type {X : zX} {Q : Int → zMem → Prop} {μ : zMem} {k n sL : Nat} {x3 B : Int} {sf : Nat → Int32} (hX : X = some (sL, sf)) (hsL : sL ≤ 2147483647) (x0 : 0 ≤ x3) (x1 : x3 + 6 ≤ sL) (hB : B ≤ 2000000000) (h : SIM B μ) (kb : k ≤ 600000) (nb : n ≤ 7302250) (hk : ∀ μ', SIM B μ' → zL_law_934 X 40 Q x3 μ' k n) : zL_law_845 X 40 Q x3 μ k n :=
  bL_law_845 hX hsL ⟨by omega, by omega, by omega, by omega, tw hk (sim_type (d := 39) (e := 39) (z_in_toInt _) h)⟩
theorem lc_clearText {X : zX} {Q : Int → zMem → Prop} {μ : zMem} {k n sL : Nat} {x3 B : Int} {sf : Nat → Int32} (hX : X = some (sL, sf)) (hsL : sL ≤ 2147483647) (x0 : 0 ≤ x3) (x1 : x3 + 6 ≤ sL) (hB : B ≤ 2000000000) (h : SIM B μ) (kb : k ≤ 600000) (nb : n ≤ 7302250) (hk : ∀ μ', SIM B μ' → zL_law_934 X 40 Q x3 μ' k n) : zL_law_868 X 40 Q x3 μ k n :=
  bL_law_868 hX hsL ⟨by omega, by omega, tw hk (sim_clearText (d := 40) (e := 40)  h)⟩
theorem lc_textFault {X : zX} {Q : Int → zMem → Prop} {μ : zMem} {k n sL : Nat} {x3 B : Int} {sf : Nat → Int32} (hX : X = some (sL, sf)) (hsL : sL ≤ 2147483647) (x0 : 0 ≤ x3) (x1 : x3 + 6 ≤ sL) (hB : B ≤ 2000000000) (h : SIM B μ) (kb : k ≤ 600000) (nb : n ≤ 7302250) (hk : ∀ μ', SIM B μ' → zL_law_934 X 40 Q x3 μ' k n) : zL_law_881 X 40 Q x3 μ k n :=
  bL_law_881 hX hsL ⟨by omega, by omega, tw hk (sim_textFault (d := 35) (e := 36)  h)⟩
theorem lc_load {X : zX} {Q : Int → zMem → Prop} {μ : zMem} {k n sL : Nat} {x3 B : Int} {sf : Nat → Int32} (hX : X = some (sL, sf)) (hsL : sL ≤ 2147483647) (x0 : 0 ≤ x3) (x1 : x3 + 6 ≤ sL) (hB : B ≤ 2000000000) (h : SIM B μ) (kb : k ≤ 600000) (nb : n ≤ 7302250) (hk : ∀ μ', SIM (B + 2) μ' → zL_law_934 X 40 Q x3 μ' k n) : zL_law_894 X 40 Q x3 μ k n :=
  bL_law_894 hX hsL ⟨by omega, by omega, tw hk (sim_load (d := 35) (e := 36)  h)⟩
theorem lc_undo {X : zX} {Q : Int → zMem → Prop} {μ : zMem} {k n sL : Nat} {x3 B : Int} {sf : Nat → Int32} (hX : X = some (sL, sf)) (hsL : sL ≤ 2147483647) (x0 : 0 ≤ x3) (x1 : x3 + 6 ≤ sL) (hB : B ≤ 2000000000) (h : SIM B μ) (kb : k ≤ 600000) (nb : n ≤ 7302250) (hk : ∀ μ', SIM (B + 2) μ' → zL_law_934 X 40 Q x3 μ' k n) : zL_law_907 X 40 Q x3 μ k n :=
  bL_law_907 hX hsL ⟨by omega, by omega, tw hk (sim_undo (d := 37) (e := 39)  h)⟩
theorem lc_digest {X : zX} {Q : Int → zMem → Prop} {μ : zMem} {k n sL : Nat} {x3 B : Int} {sf : Nat → Int32} (hX : X = some (sL, sf)) (hsL : sL ≤ 2147483647) (x0 : 0 ≤ x3) (x1 : x3 + 6 ≤ sL) (hB : B ≤ 2000000000) (h : SIM B μ) (kb : k ≤ 600000) (nb : n ≤ 7302250) (hk : ∀ μ', SIM B μ' → zL_law_934 X 40 Q x3 μ' k n) : zL_law_920 X 40 Q x3 μ k n :=
  bL_law_920 hX hsL ⟨by omega, by omega, twL hk (sim_digest (d := 37) (e := 35) hB h)⟩
theorem law_loop {X : zX} {Q : Int → zMem → Prop} {sL : Nat} {sf : Nat → Int32} (hX : X = some (sL, sf)) (hL : sL ≤ 3072) (hQ : ∀ μ, Q 1 μ) : ∀ (m : Nat) (x3 B : Int) (μ : zMem) (k n : Nat), SIM B μ → 0 ≤ x3 → x3 ≤ 10000 → (sL : Int) - x3 ≤ 6 * m → B + 2 * m ≤ 1000000 → k + 4 * m ≤ 600000 → n + 178 * m ≤ 7302250 → zL_law_18 X 40 Q x3 μ k n := by
  have hsL : sL ≤ 2147483647 := by omega
  intro m
  induction m with
  | zero =>
    intro x3 B μ k n h x0 xb x1 b0 kb nb
    exact bL_law_18 hX hsL ⟨zi _, zi _, fun _ => ⟨by omega, by omega, hQ μ⟩, fun q => absurd (by omega) q⟩
  | succ m ih =>
    intro x3 B μ k n h x0 xb x1 b0 kb nb
    refine bL_law_18 hX hsL ⟨zi _, zi _, fun _ => ⟨by omega, by omega, hQ μ⟩, fun q => ⟨by omega, by omega, (Int32.ofInt ((sf x3.toNat).toInt) &&& Int32.ofInt 31).toInt, (Int32.ofInt_toInt _).symm, z_in_toInt _, ?_⟩⟩
    have hB : B ≤ 2000000000 := by omega
    have xs : x3 + 6 ≤ sL := by omega
    have k1 : k ≤ 600000 := by omega
    have n1 : n ≤ 7302250 := by omega
    have k4 : k + 4 ≤ 600000 := by omega
    have n4 : n + 178 ≤ 7302250 := by omega
    have nxt : ∀ (B' : Int) (μ' : zMem) (k' n' : Nat), B' ≤ B + 2 → k' ≤ k + 4 → n' ≤ n + 178 → SIM B' μ' → zL_law_934 X 40 Q x3 μ' k' n' := fun B' μ' k' n' e1 e2 e3 s => bL_law_934 hX hsL (ih (x3 + 6) B' μ' k' n' s (by omega) (by omega) (by omega) (by omega) (by omega) (by omega))
    have nx0 : ∀ μ', SIM B μ' → zL_law_934 X 40 Q x3 μ' k n := fun μ' s => nxt B μ' k n (by omega) (by omega) (by omega) s
    have nx2 : ∀ μ', SIM (B + 2) μ' → zL_law_934 X 40 Q x3 μ' k n := fun μ' s => nxt (B + 2) μ' k n (by omega) (by omega) (by omega) s
    have nx4 : ∀ μ', SIM (B + 2) μ' → zL_law_934 X 40 Q x3 μ' (k + 4) (n + 178) := fun μ' s => nxt (B + 2) μ' (k + 4) (n + 178) (by omega) (by omega) (by omega) s
    clear ih nxt x1 b0 kb nb q
    refine ⟨fun _ => lc_addShape hX hsL x0 xs hB h k1 n1 nx2, fun _ => ?_⟩
    refine ⟨fun _ => lc_moveShape hX hsL x0 xs hB h k1 n1 nx2, fun _ => ?_⟩
    refine ⟨fun _ => lc_removeShape hX hsL x0 xs hB h k1 n1 nx2, fun _ => ?_⟩
    refine ⟨fun _ => lc_isFree hX hsL x0 xs hB h k1 n1 nx0, fun _ => ?_⟩
    refine ⟨fun _ => lc_span hX hsL x0 xs hB h k1 n1 nx0, fun _ => ?_⟩
    refine ⟨fun _ => lc_addWord hX hsL x0 xs hB h k1 n1 nx2, fun _ => ?_⟩
    refine ⟨fun _ => lc_setWord hX hsL x0 xs hB h k1 n1 nx2, fun _ => ?_⟩
    refine ⟨fun _ => lc_clearWords hX hsL x0 xs hB h k1 n1 nx2, fun _ => ?_⟩
    refine ⟨fun _ => lc_setSizes hX hsL x0 xs hB h k1 n1 nx2, fun _ => ?_⟩
    refine ⟨fun _ => lc_setLines hX hsL x0 xs hB h k1 n1 nx2, fun _ => ?_⟩
    refine ⟨fun _ => lc_count hX hsL x0 xs hB h k1 n1 nx0, fun _ => ?_⟩
    refine ⟨fun _ => lc_word hX hsL x0 xs hB h k1 n1 nx0, fun _ => ?_⟩
    refine ⟨fun _ => lc_cost hX hsL x0 xs hB h k1 n1 nx0, fun _ => ?_⟩
    refine ⟨fun _ => lc_fit hX hsL x0 xs hB h k1 n1 nx0, fun _ => ?_⟩
    refine ⟨fun _ => lc_allowed hX hsL x0 xs hB h k1 n1 nx0, fun _ => ?_⟩
    refine ⟨fun _ => lc_take hX hsL x0 xs hB h k4 n4 nx4, fun _ => ?_⟩
    refine ⟨fun _ => lc_widestStep hX hsL x0 xs hB h k1 n1 nx0, fun _ => ?_⟩
    refine ⟨fun _ => lc_tightestLimit hX hsL x0 xs hB h k1 n1 nx0, fun _ => ?_⟩
    refine ⟨fun _ => lc_layout hX hsL x0 xs hB h k1 n1 nx0, fun _ => ?_⟩
    refine ⟨fun _ => lc_line hX hsL x0 xs hB h k1 n1 nx0, fun _ => ?_⟩
    refine ⟨fun _ => lc_placed hX hsL x0 xs hB h k1 n1 nx0, fun _ => ?_⟩
    refine ⟨fun _ => lc_type hX hsL x0 xs hB h k1 n1 nx0, fun _ => ?_⟩
    refine ⟨fun _ => lc_clearText hX hsL x0 xs hB h k1 n1 nx0, fun _ => ?_⟩
    refine ⟨fun _ => lc_textFault hX hsL x0 xs hB h k1 n1 nx0, fun _ => ?_⟩
    refine ⟨fun _ => lc_load hX hsL x0 xs hB h k1 n1 nx2, fun _ => ?_⟩
    refine ⟨fun _ => lc_undo hX hsL x0 xs hB h k1 n1 nx2, fun _ => ?_⟩
    refine ⟨fun _ => lc_digest hX hsL x0 xs hB h k1 n1 nx0, fun _ => ?_⟩
    exact nx0 μ h
