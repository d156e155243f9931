/-! a looser limit allows what a tighter one does -/
def agr (s s' : Int → Int) : Prop := ∀ i, i ≠ 81 → s' i = s i
theorem sz_g {s s' : Int → Int} {b k : Int} (h : agr s s') (hk : k < 14) : sz s' b k = sz s b k := by
  unfold sz
  rw [h _ (by omega), h 74 (by decide)]
theorem wd_g {s s' : Int → Int} {b k : Int} (h : agr s s') (hk : k < 14) : wd s' b k = wd s b k := by
  unfold wd
  rw [h _ (by omega), sz_g h hk]
theorem gp_g {s s' : Int → Int} {b k : Int} (h : agr s s') (hk : k < 14) : gp s' b k = gp s b k := by
  unfold gp
  rw [sz_g h hk, sz_g h (by omega)]
theorem LW_g {s s' : Int → Int} {b first : Int} (h : agr s s') : ∀ j : Nat, first + j ≤ 14 → LW s' b first j = LW s b first j
  | 0, _ => rfl
  | j + 1, hj => by
    unfold LW
    rw [LW_g h j (by omega), wd_g h (by omega), gp_g h (by omega)]
theorem LH_g {s s' : Int → Int} {b first : Int} (h : agr s s') : ∀ j : Nat, first + j ≤ 14 → LH s' b first j = LH s b first j
  | 0, _ => rfl
  | j + 1, hj => by
    unfold LH
    rw [LH_g h j (by omega), sz_g h (by omega)]
theorem ln_g {s s' : Int → Int} {b first k row : Int} (hw : wf s) (h : agr s s') (f1 : first ≤ 14) (k1 : k ≤ 14) : lH s' b first k = lH s b first k ∧ lW s' b first k = lW s b first k ∧ lS s' b first k row = lS s b first k row ∧ SF s' row (lH s' b first k) = SF s row (lH s b first k) := by
  have hf : ∀ x y, freeB s' x y = freeB s x y := fun x y => (freeB_c hw (fun i _ _ => (h i (by omega)).symm) x y).symm
  have a : lH s' b first k = lH s b first k := by
    unfold lH
    exact LH_g h _ (by omega)
  have c : lW s' b first k = lW s b first k := by
    unfold lW
    exact LW_g h _ (by omega)
  refine ⟨a, c, ?_, ?_⟩
  · unfold lS
    rw [a, c, (SL_c hf row _).1]
  · rw [a, (SL_c hf row _).2]
theorem COL_g {s s' : Int → Int} {b first st : Int} (h : agr s s') : ∀ j : Nat, first + j < 14 → COL s' b first st j = COL s b first st j
  | 0, _ => rfl
  | j + 1, hj => by
    unfold COL
    rw [COL_g h j (by omega), wd_g h (by omega), gp_g h (by omega)]
theorem lC_g {s s' C C' : Int → Int} {b first k row : Int} (hw : wf s) (h : agr s s') (f1 : first ≤ 14) (k1 : k ≤ 14) (hC : ∀ i, i < 14 → C' i = C i) : ∀ i, i < 14 → lC s' b first k row C' i = lC s b first k row C i := by
  intro i hi
  have g := ln_g (b := b) (first := first) (k := k) (row := row) hw h f1 k1
  unfold lC
  by_cases e : first ≤ i
  · rw [if_pos e, if_pos e, g.2.2.2, g.2.2.1, COL_g h _ (by omega)]
    unfold ind
    rw [h 80 (by decide)]
  · rw [if_neg e, if_neg e]
    exact hC i hi
theorem mx_g {s s' C C' U U' : Int → Int} {b lo w : Int} (h : agr s s') (hC : ∀ i, i < 14 → C' i = C i) (hU : ∀ i, i < 14 → U' i = U i) (w1 : w < 14) : ∀ j : Nat, lo + 1 + j ≤ 14 → mx s' b C' U' lo w j = mx s b C U lo w j
  | 0, _ => rfl
  | j + 1, hj => by
    unfold mx
    rw [mx_g h hC hU w1 j (by omega), hC (lo + j) (by omega), hC w w1, hC (w - 1) (by omega), hC (lo + 1 + j) (by omega), hU (lo + 1 + j) (by omega), wd_g h (by omega), wd_g h (by omega)]
theorem lU_g {s s' C C' U U' : Int → Int} {b pf first : Int} (h : agr s s') (f1 : first ≤ 14) (hC : ∀ i, i < 14 → C' i = C i) (hU : ∀ i, i < 14 → U' i = U i) : ∀ i, i < 14 → lU s' b C' U' pf first i = lU s b C U pf first i := by
  intro i hi
  unfold lU
  by_cases e : pf + 1 ≤ 14
  · rw [mx_g h hC hU hi _ (by omega), hU i hi]
  · rw [show (first - pf - 1).toNat = 0 by omega, hU i hi]
    rfl
theorem Lg_g {U U' : Int → Int} {first : Int} (hU : ∀ i, i < 14 → U' i = U i) : ∀ j : Nat, first + 1 + j ≤ 14 → Lg U' first j = Lg U first j
  | 0, _ => rfl
  | j + 1, hj => by
    unfold Lg
    rw [Lg_g hU j (by omega), hU _ (by omega)]
theorem okL_g {s s' C C' U U' : Int → Int} {b first k row pf : Int} (hw : wf s) (h : agr s s') (hl : s 81 ≤ s' 81) (fk : first < k) (k1 : k ≤ 14) (hC : ∀ i, i < 14 → C' i = C i) (hU : ∀ i, i < 14 → U' i = U i) (ok : okL s b first k row pf C U = true) : okL s' b first k row pf C' U' = true := by
  rw [okL_iff] at ok ⊢
  have g := ln_g (b := b) (first := first) (k := k) (row := row) hw h (by omega) k1
  refine ⟨⟨by rw [g.1]; exact ok.1.1, by rw [g.2.2.1]; exact ok.1.2⟩, ?_⟩
  rw [Lg_g (lU_g h (by omega) (lC_g hw h (by omega) k1 hC) hU) _ (by omega)]
  have := ok.2
  omega
theorem evc_g {s s' : Int → Int} {b : Int} {c : Nat} (hw : wf s) (h : agr s s') (hl : s 81 ≤ s' 81) : ∀ (r : Nat) (first row pf : Int) (C U C' U' : Int → Int) (e : Int × List Int), first < s 31 - r → (∀ i, i < 14 → C' i = C i) → (∀ i, i < 14 → U' i = U i) → evc s b c r first row pf C U = some e → evc s' b c r first row pf C' U' = some e
  | 0, first, row, pf, C, U, C', U', e, fr, hC, hU, he => by
    have hn := hw.2.2.1
    unfold evc at he ⊢
    by_cases ok : okL s b first (s 31) row pf C U = true
    · rw [if_pos ok] at he
      have g := ln_g (b := b) (first := first) (k := s 31) (row := row) hw h (by omega) (by omega)
      rw [h 31 (by decide), if_pos (okL_g hw h hl (by omega) (by omega) hC hU ok), g.2.2.1]
      exact he
    · rw [if_neg ok] at he
      cases he
  | r + 1, first, row, pf, C, U, C', U', e, fr, hC, hU, he => by
    have hn := hw.2.2.1
    rw [evc_s] at he ⊢
    rw [h 31 (by decide)]
    by_cases hb : c.testBit r = true
    · rw [if_pos hb] at he ⊢
      by_cases ok : okL s b first (s 31 - (r + 1)) row pf C U = true
      · rw [if_pos ok] at he
        have g := ln_g (b := b) (first := first) (k := s 31 - (r + 1)) (row := row) hw h (by omega) (by omega)
        rw [if_pos (okL_g hw h hl (by omega) (by omega) hC hU ok), g.2.2.1, g.1, h 79 (by decide)]
        cases hv : evc s b c r (s 31 - (r + 1)) (row + (lH s b first (s 31 - (r + 1)) + s 79)) first (lC s b first (s 31 - (r + 1)) row C) (lU s b (lC s b first (s 31 - (r + 1)) row C) U pf first) with
        | none => rw [hv] at he; cases he
        | some x =>
          rw [hv] at he
          rw [evc_g hw h hl r _ _ _ _ _ _ _ x (by omega) (lC_g hw h (by omega) (by omega) hC) (lU_g h (by omega) (lC_g hw h (by omega) (by omega) hC) hU) hv]
          exact he
      · rw [if_neg ok] at he
        cases he
    · rw [if_neg hb] at he ⊢
      rw [h (32 + 3 * (s 31 - (r + 1)) + 2) (by omega)]
      by_cases mk : s (32 + 3 * (s 31 - (r + 1)) + 2) = 0
      · rw [if_pos mk] at he ⊢
        exact evc_g hw h hl r _ _ _ _ _ _ _ e (by omega) hC hU he
      · rw [if_neg mk] at he
        cases he
