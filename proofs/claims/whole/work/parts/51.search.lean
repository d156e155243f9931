/-! the class's search: slacks, and the least costs -/
def KN (s : Int → Int) (b : Int) (μ : zMem) : Prop := ∀ i, 0 ≤ i → i < s 31 → knw s μ (sz s b i)
def SP (s : Int → Int) (b : Int) (μ : zMem) : Prop := MEA s b μ ∧ KN s b μ ∧ gI μ 11 2 = s 78 ∧ gI μ 11 3 = s 79 ∧ gI μ 11 4 = s 80 ∧ gI μ 11 5 = s 81
theorem LH_is {s : Int → Int} {b first : Int} (hw : wf s) (b0 : 1 ≤ b) (b1 : b ≤ 12) (f0 : 0 ≤ first) : ∀ j : Nat, first + j < s 31 → ∃ i, first ≤ i ∧ i ≤ first + j ∧ LH s b first (j + 1) = sz s b i
  | 0, h => by
    have := sz_bd hw b0 b1 f0 (show first < s 31 by omega)
    refine ⟨first, by omega, by omega, ?_⟩
    show (if sz s b (first + ((0 : Nat) : Int)) ≤ 0 then 0 else sz s b (first + ((0 : Nat) : Int))) = _
    rw [show first + ((0 : Nat) : Int) = first by omega, if_neg (by omega)]
  | j + 1, h => by
    obtain ⟨i, a, c, e⟩ := LH_is hw b0 b1 f0 j (by omega)
    show ∃ i, first ≤ i ∧ i ≤ first + ((j + 1 : Nat) : Int) ∧ (if sz s b (first + ((j + 1 : Nat) : Int)) ≤ LH s b first (j + 1) then LH s b first (j + 1) else sz s b (first + ((j + 1 : Nat) : Int))) = sz s b i
    by_cases g : sz s b (first + ((j + 1 : Nat) : Int)) ≤ LH s b first (j + 1)
    · rw [if_pos g]
      exact ⟨i, a, by omega, e⟩
    · rw [if_neg g]
      exact ⟨first + ((j + 1 : Nat) : Int), by omega, by omega, rfl⟩
theorem KN.lh {s : Int → Int} {b first k : Int} {μ : zMem} (h : KN s b μ) (hw : wf s) (b0 : 1 ≤ b) (b1 : b ≤ 12) (f0 : 0 ≤ first) (fk : first < k) (k1 : k ≤ s 31) : knw s μ (lH s b first k) := by
  obtain ⟨i, a, c, e⟩ := LH_is hw b0 b1 f0 (k - first - 1).toNat (by omega)
  unfold lH
  rw [show (k - first).toNat = (k - first - 1).toNat + 1 by omega, e]
  exact h i (by omega) (by omega)
def slV (s : Int → Int) (b first k row : Int) : Int := if row + lH s b first k ≤ 36 ∧ 0 ≤ lS s b first k row then lS s b first k row else -1
theorem slV_ne {s : Int → Int} {b first k row : Int} : slV s b first k row ≠ -1 ↔ fit s b first k row := by
  unfold slV fit
  split <;> omega
theorem slV_eq {s : Int → Int} {b first k row : Int} (h : fit s b first k row) : slV s b first k row = lS s b first k row := by
  exact if_pos h
theorem MEA.h {s : Int → Int} {b first k : Int} {μ : zMem} {d : Nat} {Q : Int → zMem → Prop} (h : MEA s b μ) (hw : wf s) (f0 : 0 ≤ first) (fk : first < k) (k1 : k ≤ s 31) (hQ : Q (lH s b first k) μ) : kX3_heightOf d first k μ Q := by
  have hn := hw.2.2.1
  refine bX3_heightOf ⟨by omega, by omega, ?_⟩
  rw [(h.2.2 first k f0 fk k1).2]
  exact hQ
theorem MEA.w {s : Int → Int} {b first k : Int} {μ : zMem} {d : Nat} {Q : Int → zMem → Prop} (h : MEA s b μ) (hw : wf s) (f0 : 0 ≤ first) (fk : first < k) (k1 : k ≤ s 31) (hQ : Q (lW s b first k) μ) : kX3_widthOf d first k μ Q := by
  have hn := hw.2.2.1
  refine bX3_widthOf ⟨by omega, by omega, ?_⟩
  rw [(h.2.2 first k f0 fk k1).1]
  exact hQ
theorem pX4_slackOf {d : Nat} {Q : Int → zMem → Prop} {μ : zMem} {s : Int → Int} {b first k row : Int} (hw : wf s) (b0 : 1 ≤ b) (b1 : b ≤ 12) (hm : MEA s b μ) (hk : KN s b μ) (f0 : 0 ≤ first) (fk : first < k) (k1 : k ≤ s 31) (r0 : 0 ≤ row) (r1 : row ≤ 100) (hQ : zIn (slV s b first k row) → Q (slV s b first k row) μ) : kX4_slackOf (d + 1) first k row μ Q := by
  have hb := lH_bd hw b0 b1 f0 fk k1
  have hsl := SL_bd s row (lH s b first k)
  refine bX4_slackOf (hm.h hw f0 fk k1 ⟨zi _, fun h => ?_, fun h => ?_⟩)
  · refine pX0_lengthOf (hk.lh hw b0 b1 f0 fk k1) r0 hb.1 h (hm.w hw f0 fk k1 ?_)
    rw [show SL s row (lH s b first k) - lW s b first k = lS s b first k row from rfl]
    have e : lS s b first k row ≤ 48 ∧ -4000 ≤ lS s b first k row := by
      unfold lS
      omega
    refine ⟨zi _, ?_⟩
    have e2 : (if lS s b first k row < 0 then (-1 : Int) else lS s b first k row) = slV s b first k row := by
      unfold slV
      split <;> split <;> omega
    rw [e2]
    refine hQ ?_
    rw [← e2]
    split <;> exact zi _
  · have e2 : slV s b first k row = -1 := by
      unfold slV
      rw [if_neg (fun q => h q.1)]
    rw [e2] at hQ
    exact hQ (zi _)
theorem fit_mono {s : Int → Int} {b first k k' row : Int} (hw : wf s) (b0 : 1 ≤ b) (b1 : b ≤ 12) (f0 : 0 ≤ first) (fk : first < k) (kk : k ≤ k') (k1 : k' ≤ s 31) (h : fit s b first k' row) : fit s b first k row := by
  have h1 := LH_mono (s := s) (b := b) (first := first) (k - first).toNat (k' - first).toNat (by omega)
  have h2 := LW_mono hw b0 b1 f0 (k - first).toNat (k' - first).toNat (by omega) (by omega)
  have h3 := lH_bd hw b0 b1 f0 fk (by omega)
  have h4 := SL_mono s row (a := lH s b first k) (b := lH s b first k') (by omega) h1
  unfold fit lS at h ⊢
  unfold lH lW at *
  omega
theorem comp_nil {s : Int → Int} {b first e row pf : Int} {C U : Int → Int} (hw : wf s) (b0 : 1 ≤ b) (b1 : b ≤ 12) (f0 : 0 ≤ first) (fe : first < e) (hf : ¬ fit s b first e row) : ∀ r : Nat, e ≤ s 31 - r → comp s b r first row pf C U = []
  | 0, h => by
    unfold comp
    rw [if_neg]
    exact fun q => hf (fit_mono hw b0 b1 f0 fe (by omega) (by omega) (okL_iff.mp q).1)
  | r + 1, h => by
    unfold comp
    rw [if_neg, comp_nil hw b0 b1 f0 fe hf r (by omega)]
    · split <;> rfl
    · exact fun q => hf (fit_mono hw b0 b1 f0 fe (by omega) (by omega) (okL_iff.mp q).1)
theorem comp_s (s : Int → Int) (b : Int) (r : Nat) (first row pf : Int) (C U : Int → Int) : comp s b (r + 1) first row pf C U = (if okL s b first (s 31 - (r + 1)) row pf C U = true then (comp s b r (s 31 - (r + 1)) (row + (lH s b first (s 31 - (r + 1)) + s 79)) first (lC s b first (s 31 - (r + 1)) row C) (lU s b (lC s b first (s 31 - (r + 1)) row C) U pf first)).map (fun e => (lS s b first (s 31 - (r + 1)) row * lS s b first (s 31 - (r + 1)) row + e.1, (s 31 - (r + 1)) :: e.2)) else []) ++ (if s (32 + 3 * (s 31 - (r + 1)) + 2) = 0 then comp s b r first row pf C U else []) := rfl
/-- a bound for the lines from a word and a row on -/
def LCK (s : Int → Int) (b v w row : Int) : Prop := ∀ pf C U x, x ∈ comp s b (s 31 - 1 - w).toNat w row pf C U → v ≠ -1 ∧ v ≤ x.1
def LCT (s : Int → Int) (b n : Int) (μ : zMem) : Prop := ∀ w row, n ≤ w → w < s 31 → s 78 ≤ row → row < 36 → LCK s b (gI μ 23 (w * 36 + row)) w row ∧ -1 ≤ gI μ 23 (w * 36 + row) ∧ gI μ 23 (w * 36 + row) ≤ 2304 * (s 31 - w)
theorem pX4_leastCostFrom {d : Nat} {Q : Int → zMem → Prop} {μ : zMem} {s : Int → Int} {b e row : Int} (hw : wf s) (b0 : 1 ≤ b) (b1 : b ≤ 12) (hm : gI μ 16 0 = s 31) (e0 : 0 ≤ e) (e1 : e ≤ s 31) (hT : LCT s b e μ) (r0 : s 78 ≤ row) (r1 : row ≤ 200)
    (hQ : ∀ v, (e = s 31 → v = 0) → (e < s 31 → LCK s b v e row) → -1 ≤ v → v ≤ 2304 * (s 31 - e) → Q v μ) : kX4_leastCostFrom d e row μ Q := by
  have hn := hw.2.2.1
  have ht := hw.2.2.2.2.2.2.2.2.1
  refine bX4_leastCostFrom ?_
  rw [hm]
  refine ⟨zi _, zi _, fun h => ⟨⟨zi _, fun _ => trivial, fun _ => by omega⟩, ?_⟩, fun h => hQ 0 (fun _ => rfl) (fun q => absurd q h) (by omega) (by omega)⟩
  by_cases g : 36 ≤ row
  · rw [if_pos g]
    refine hQ (-1) (fun q => by omega) (fun _ pf C U x hx => ?_) (by omega) (by omega)
    have lb := lH_bd hw b0 b1 e0 (show e < e + 1 by omega) (by omega)
    rw [comp_nil (e := e + 1) hw b0 b1 e0 (by omega) (fun q => by have := q.1; omega) _ (by omega)] at hx
    cases hx
  · rw [if_neg g]
    have := hT e row (Int.le_refl _) h r0 (by omega)
    exact hQ _ (fun q => by omega) (fun _ => this.1) this.2.1 this.2.2
theorem pX4_rowBehind {d : Nat} {Q : Int → zMem → Prop} {μ : zMem} {s : Int → Int} {b first k row : Int} (hw : wf s) (hm : MEA s b μ) (h3 : gI μ 11 3 = s 79) (f0 : 0 ≤ first) (fk : first < k) (k1 : k ≤ s 31) (hQ : Q (row + (lH s b first k + s 79)) μ) : kX4_rowBehind (d + 1) first k row μ Q := by
  refine bX4_rowBehind (hm.h hw f0 fk k1 ?_)
  rw [h3, show row + lH s b first k + s 79 = row + (lH s b first k + s 79) by omega]
  exact hQ
theorem pX4_findLeastCost {d : Nat} {Q : Int → zMem → Prop} {μ : zMem} {s : Int → Int} {b w row : Int} (hw : wf s) (b0 : 1 ≤ b) (b1 : b ≤ 12) (hs : SP s b μ) (w0 : 0 ≤ w) (w1 : w < s 31) (hT : LCT s b (w + 1) μ) (r0 : s 78 ≤ row) (r1 : row < 36)
    (hQ : ∀ v, LCK s b v w row → -1 ≤ v → v ≤ 2304 * (s 31 - w) → Q v μ) : kX4_findLeastCost (d + 2) w row μ Q := by
  have hn := hw.2.2.1
  have ht := hw.2.2.2.2.2.2.2.2.1
  have hld := hw.2.2.2.2.2.2.2.2.2.1
  obtain ⟨hm, hk, h2, h3, h4, h5⟩ := hs
  have hle := hm.2.1 w w0 w1
  refine bX4_findLeastCost ?_
  have loop : ∀ (r : Nat) (e l : Int), s 31 - e = r → w < e → e ≤ gI μ 20 w → -1 ≤ l → l ≤ 2304 * (s 31 - w) → (∀ v, (l ≠ -1 → v ≠ -1 ∧ v ≤ l) → (∀ pf C U x, x ∈ comp s b r w row pf C U → v ≠ -1 ∧ v ≤ x.1) → -1 ≤ v → v ≤ 2304 * (s 31 - w) → Q v μ) → zX4_findLeastCost_7 (d + 1) Q w row l e μ := by
    intro r
    induction r with
    | zero =>
      intro e l he we hle' l0 l1 hq
      have ee : e = s 31 := by omega
      have hl2 := hle.2.1
      refine bX4_findLeastCost_7 ⟨by omega, by omega, zi _, zi _, fun q => absurd q (by omega), fun _ => ?_⟩
      refine pX4_slackOf hw b0 b1 hm hk w0 we (by omega) (by omega) (by omega) (fun zz => ⟨zz, fun hs1 => ?_, fun hs1 => ?_⟩)
      · refine hq l (fun q => ⟨q, Int.le_refl _⟩) (fun pf C U x hx => ?_) l0 l1
        rw [comp_nil (e := e) hw b0 b1 w0 we (fun q => slV_ne.mpr q hs1) 0 (by omega)] at hx
        cases hx
      · have hf := slV_ne.mp hs1
        have sq := lS_sq s hw b0 b1 w0 (show e ≤ s 31 by omega) hf.2
        refine pX4_rowBehind hw hm h3 w0 we (by omega) ?_
        have lb := lH_bd hw b0 b1 w0 we (by omega)
        refine pX4_leastCostFrom hw b0 b1 hm.1.1 (by omega) (by omega) (fun w' row' a => hT w' row' (by omega)) (by omega) (by omega) ?_
        intro v v1 v2 v3 v4
        have v0 := v1 ee
        rw [slV_eq hf, v0]
        refine ⟨⟨zi _, fun _ => trivial, fun _ => ⟨zi _, fun _ => trivial, fun _ => zi _⟩⟩, ?_⟩
        rw [if_neg (by omega)]
        have fin : ∀ l', (l ≠ -1 → l' ≤ l) → l' ≤ lS s b w e row * lS s b w e row → 0 ≤ l' → zX4_findLeastCost_7 (d + 1) Q w row l' (e + 1) μ := by
          intro l' a c z
          refine bX4_findLeastCost_7 ⟨by omega, by omega, zi _, zi _, fun _ => hq l' (fun q => ⟨by omega, a q⟩) (fun pf C U x hx => ?_) (by omega) (by omega), fun q => absurd (by omega) q⟩
          unfold comp at hx
          rw [← ee] at hx
          split at hx
          · simp only [List.mem_singleton] at hx
            subst hx
            exact ⟨by omega, c⟩
          · cases hx
        by_cases g : l = -1
        · rw [if_pos g, Int.add_zero]
          exact fin _ (fun q => absurd g q) (Int.le_refl _) sq.1
        · rw [if_neg g, Int.add_zero]
          by_cases g2 : l ≤ lS s b w e row * lS s b w e row
          · rw [if_pos g2]
            exact fin _ (fun _ => Int.le_refl _) g2 (by omega)
          · rw [if_neg g2]
            exact fin _ (fun _ => by omega) (Int.le_refl _) sq.1
    | succ r ih =>
      intro e l he we hle' l0 l1 hq
      have ee : s 31 - ((r : Int) + 1) = e := by omega
      have hl2 := hle.2.1
      refine bX4_findLeastCost_7 ⟨by omega, by omega, zi _, zi _, fun q => absurd q (by omega), fun _ => ?_⟩
      refine pX4_slackOf hw b0 b1 hm hk w0 we (by omega) (by omega) (by omega) (fun zz => ⟨zz, fun hs1 => ?_, fun hs1 => ?_⟩)
      · refine hq l (fun q => ⟨q, Int.le_refl _⟩) (fun pf C U x hx => ?_) l0 l1
        rw [comp_nil (e := e) hw b0 b1 w0 we (fun q => slV_ne.mpr q hs1) (r + 1) (by omega)] at hx
        cases hx
      · have hf := slV_ne.mp hs1
        have sq := lS_sq s hw b0 b1 w0 (show e ≤ s 31 by omega) hf.2
        refine pX4_rowBehind hw hm h3 w0 we (by omega) ?_
        have lb := lH_bd hw b0 b1 w0 we (by omega)
        refine pX4_leastCostFrom hw b0 b1 hm.1.1 (by omega) (by omega) (fun w' row' a => hT w' row' (by omega)) (by omega) (by have := hf.1; omega) ?_
        intro v v1 v2 v3 v4
        have hv := v2 (by omega)
        rw [slV_eq hf]
        refine ⟨⟨zi _, fun _ => trivial, fun _ => ⟨zi _, fun _ => trivial, fun _ => zi _⟩⟩, ?_⟩
        have fin : ∀ l', -1 ≤ l' → l' ≤ 2304 * (s 31 - w) → (l ≠ -1 → l' ≠ -1 ∧ l' ≤ l) → (v ≠ -1 → l' ≠ -1 ∧ l' ≤ lS s b w e row * lS s b w e row + v) → zX4_findLeastCost_7 (d + 1) Q w row l' (e + 1) μ := by
          intro l' z0 z1 a c
          have key : ∀ v', (l' ≠ -1 → v' ≠ -1 ∧ v' ≤ l') → (s (32 + 3 * e + 2) = 0 → ∀ pf C U x, x ∈ comp s b r w row pf C U → v' ≠ -1 ∧ v' ≤ x.1) → -1 ≤ v' → v' ≤ 2304 * (s 31 - w) → Q v' μ := by
            intro v' p1 p2 p3 p4
            refine hq v' (fun q => ⟨(p1 (a q).1).1, by have := (p1 (a q).1).2; have := (a q).2; omega⟩) (fun pf C U x hx => ?_) p3 p4
            rw [comp_s, ee, List.mem_append] at hx
            rcases hx with hx | hx
            · split at hx
              · rw [List.mem_map] at hx
                obtain ⟨x', hx', rfl⟩ := hx
                have q := hv w (lC s b w e row C) (lU s b (lC s b w e row C) U pf w) x' (by
                  rw [show (s 31 - 1 - e).toNat = r by omega]
                  exact hx')
                have q2 := c q.1
                have q3 := p1 q2.1
                exact ⟨q3.1, by have := q3.2; have := q2.2; have := q.2; dsimp only; omega⟩
              · cases hx
            · split at hx
              · rename_i mk
                exact p2 mk pf C U x hx
              · cases hx
          by_cases g : gI μ 20 w < e + 1
          · refine bX4_findLeastCost_7 ⟨by omega, by omega, zi _, zi _, fun _ => key l' (fun q => ⟨q, Int.le_refl _⟩) (fun mk => ?_) z0 z1, fun q => absurd g q⟩
            have : gI μ 20 w = e := by omega
            have h6 := hle.2.2.2
            rw [this] at h6
            exact absurd mk (h6 (by omega))
          · exact ih (e + 1) l' (by omega) (by omega) (by omega) z0 z1 (fun v' p1 p2 p3 p4 => key v' p1 (fun _ => p2) p3 p4)
        by_cases gv : v = -1
        · rw [if_pos gv]
          exact fin l l0 l1 (fun q => ⟨q, Int.le_refl _⟩) (fun q => absurd gv q)
        · rw [if_neg gv]
          by_cases g : l = -1
          · rw [if_pos g]
            exact fin _ (by omega) (by omega) (fun q => absurd g q) (fun _ => ⟨by omega, Int.le_refl _⟩)
          · rw [if_neg g]
            by_cases g2 : l ≤ lS s b w e row * lS s b w e row + v
            · rw [if_pos g2]
              exact fin _ l0 l1 (fun q => ⟨q, Int.le_refl _⟩) (fun _ => ⟨g, g2⟩)
            · rw [if_neg g2]
              exact fin _ (by omega) (by omega) (fun q => ⟨by omega, by omega⟩) (fun _ => ⟨by omega, Int.le_refl _⟩)
  refine loop (s 31 - (w + 1)).toNat (w + 1) (-1) (by omega) (by omega) (by have := hle.1; omega) (by omega) (by omega) (fun v p1 p2 p3 p4 => hQ v (fun pf C U x hx => p2 pf C U x ?_) p3 p4)
  rw [show (s 31 - (w + 1)).toNat = (s 31 - 1 - w).toNat by omega]
  exact hx
