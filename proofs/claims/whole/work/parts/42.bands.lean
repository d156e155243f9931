/-! free cells, spans: the class's -/
def rowC (s : Int → Int) (y : Int) : Nat → Int
  | 0 => 0
  | n + 1 => rowC s y n + b2 (freeB s n y = true)
theorem rowC_bits {s : Int → Int} {y : Int} {m : Int64} (h : mb m (fun x => freeB s x y)) : ∀ n : Nat, n ≤ 64 → ((bits (un m) n : Nat) : Int) = if n ≤ 48 then rowC s y n else rowC s y 48
  | 0, _ => rfl
  | n + 1, hn => by
    have ih := rowC_bits h n (by omega)
    have hb : (un m).testBit n = (decide (n < 48) && freeB s n y) := h n (by omega)
    unfold bits
    rw [hb]
    by_cases g : n < 48
    · rw [if_pos (show n + 1 ≤ 48 by omega)]
      rw [if_pos (show n ≤ 48 by omega)] at ih
      unfold rowC b2
      simp only [g, decide_true, Bool.true_and]
      by_cases e : freeB s (n : Int) y = true
      · simp only [e, if_true]
        omega
      · simp only [e]
        simp
        omega
    · rw [if_neg (show ¬ n + 1 ≤ 48 by omega)]
      simp only [g, decide_false, Bool.false_and]
      by_cases e : n = 48
      · subst e
        rw [if_pos (by omega)] at ih
        simp
        omega
      · rw [if_neg (by omega)] at ih
        simp
        omega
def fs2 (s : Int → Int) (Y : Nat) : Nat → Int
  | 0 => 0
  | n + 1 => fs2 s Y n + fcnt s n Y
theorem fs2_s (s : Int → Int) (Y : Nat) : ∀ X : Nat, fs2 s (Y + 1) X = fs2 s Y X + rowC s Y X
  | 0 => rfl
  | X + 1 => by
    have ih := fs2_s s Y X
    unfold fs2 rowC
    rw [ih]
    have : fcnt s X (Y + 1) = fcnt s X Y + b2 (freeB s X Y = true) := rfl
    omega
theorem fs2_0 (s : Int → Int) : ∀ X : Nat, fs2 s 0 X = 0
  | 0 => rfl
  | X + 1 => by
    unfold fs2
    rw [fs2_0 s X]
    rfl
theorem fs2_36 (s : Int → Int) : ∀ X : Nat, fsum s X = fs2 s 36 X
  | 0 => rfl
  | X + 1 => by
    unfold fsum fs2
    rw [fs2_36 s X]
theorem pX1_freeCells {d : Nat} {Q : Int → zMem → Prop} {μ : zMem} {s : Int → Int} (hf : FRE μ 4 (freeB s)) (hQ : Q (fsum s 48) μ) : kX1_freeCells (d + 1) μ Q := by
  refine bX1_freeCells ?_
  have loop : ∀ (n y : Nat), y + n = 36 → zX1_freeCells_4 d Q (fs2 s y 48) y μ := by
    intro n
    induction n with
    | zero =>
      intro y hy
      refine bX1_freeCells_4 ⟨zi _, fun _ => ?_, fun h => absurd (by omega) h⟩
      rw [show y = 36 by omega, ← fs2_36]
      exact hQ
    | succ n ih =>
      intro y hy
      refine bX1_freeCells_4 ⟨zi _, fun h => absurd h (by omega), fun _ => ⟨by omega, by omega, ?_⟩⟩
      refine pJ13_bitCount ?_
      have e := rowC_bits (hf y (by omega)) 64 (Nat.le_refl _)
      rw [if_neg (by omega)] at e
      rw [e, ← fs2_s]
      exact ih (y + 1) (by omega)
  have h0 := loop 36 0 (by omega)
  rw [fs2_0] at h0
  exact h0
theorem pX1_isFreeAt {d : Nat} {Q : Int → zMem → Prop} {μ : zMem} {s : Int → Int} {x y : Int} (hf : FRE μ 4 (freeB s)) (x0 : 0 ≤ x) (x1 : x ≤ 47) (y0 : 0 ≤ y) (y1 : y ≤ 35) (hQ : Q (b2 (freeB s x y = true)) μ) : kX1_isFreeAt d x y μ Q := by
  refine bX1_isFreeAt ⟨y0, by omega, ?_⟩
  obtain ⟨X, rfl⟩ : ∃ X : Nat, x = X := ⟨x.toNat, by omega⟩
  obtain ⟨Y, rfl⟩ : ∃ Y : Nat, y = Y := ⟨y.toNat, by omega⟩
  have h := mb_at0 (hf Y (by omega)) (x := X) (by omega)
  have e : (if zcmp (gL μ 4 (Y : Int) >>> ((Int32.ofInt (X : Int)).toInt64 &&& 63) &&& 1) 0 = 0 then (0 : Int) else 1) = b2 (freeB s X Y = true) := by
    unfold b2
    by_cases g : freeB s (X : Int) (Y : Int) = true
    · rw [if_pos g, if_neg (fun q => by
        have := h.mp q
        rw [g] at this
        cases this)]
    · rw [if_neg g, if_pos (h.mpr (by simpa using g))]
  rw [e]
  exact hQ
theorem pX1_freeColumns {d : Nat} {Q : Int64 → zMem → Prop} {μ : zMem} {s : Int → Int} {row rows : Int} (hf : FRE μ 4 (freeB s)) (r0 : 0 ≤ row) (r1 : 1 ≤ rows) (r2 : row + rows ≤ 36) (hQ : ∀ m, mb m (bandB s row rows.toNat) → Q m μ) : kX1_freeColumns d row rows μ Q := by
  have loop : ∀ (n r : Nat) (m : Int64), (r : Int) + n = rows → 1 ≤ r → mb m (bandB s row r) → zX1_freeColumns_12 d Q row rows m (row + r) μ := by
    intro n
    induction n with
    | zero =>
      intro r m hr h1 hm
      refine bX1_freeColumns_12 ⟨zi _, zi _, fun _ => hQ m ?_, fun h => absurd (by omega) h⟩
      rw [show rows.toNat = r by omega]
      exact hm
    | succ n ih =>
      intro r m hr h1 hm
      refine bX1_freeColumns_12 ⟨zi _, zi _, fun h => absurd h (by omega), fun _ => ⟨by omega, by omega, ?_⟩⟩
      have hy := hf (row + r).toNat (by omega)
      rw [show (((row + r).toNat : Nat) : Int) = row + r by omega] at hy
      rw [show row + (r : Int) + 1 = row + ((r + 1 : Nat) : Int) by omega]
      exact ih (r + 1) _ (by omega) (by omega) (mb_and hm hy)
  refine bX1_freeColumns ⟨r0, by omega, ?_⟩
  have hy := hf row.toNat (by omega)
  rw [show ((row.toNat : Nat) : Int) = row by omega] at hy
  have h0 := loop (rows - 1).toNat 1 (gL μ 4 row) (by omega) (by omega) (mb_congr hy (fun x hx => by simp [bandB]))
  exact h0
theorem pX0_findSpan {d : Nat} {Q : zMem → Prop} {μ : zMem} {i : Int} {m : Int64} {f : Nat → Bool} (i0 : 0 ≤ i) (i1 : i < 1296) (hm : mb m f) (hQ : Q (sI (sI μ 13 i (spr f 48).2.1) 14 i (spr f 48).2.2)) : kX0_findSpan d i m μ Q := by
  refine bX0_findSpan ?_
  have loop : ∀ (n x : Nat), x + n = 48 → zX0_findSpan_12 d Q i m (spr f x).2.1 (spr f x).2.2 (spr f x).1 x μ := by
    intro n
    induction n with
    | zero =>
      intro x hx
      refine bX0_findSpan_12 ⟨zi _, fun _ => ⟨i0, i1, ?_⟩, fun h => absurd (by omega) h⟩
      rw [show x = 48 by omega]
      exact hQ
    | succ n ih =>
      intro x hx
      have b := spr_bd f x
      have ht := mb_at0 hm (x := x) (by omega)
      have e : (if zcmp (m >>> ((Int32.ofInt (x : Int)).toInt64 &&& 63) &&& 1) 0 = 0 then (0 : Int) else (spr f x).1 + 1) = if f x = true then (spr f x).1 + 1 else 0 := by
        by_cases g : f x = true
        · rw [if_pos g, if_neg (fun q => by
            have := ht.mp q
            rw [g] at this
            cases this)]
        · rw [if_neg g, if_pos (ht.mpr (by simpa using g))]
      have h1 := ih (x + 1) (by omega)
      refine bX0_findSpan_12 ⟨zi _, fun h => absurd h (by omega), fun _ => ?_⟩
      rw [e]
      refine ⟨⟨zi _ (by split <;> omega), zi _⟩, ?_⟩
      have es : spr f (x + 1) = if (spr f x).2.1 < (if f x = true then (spr f x).1 + 1 else 0) then ((if f x = true then (spr f x).1 + 1 else 0), (if f x = true then (spr f x).1 + 1 else 0), (x : Int) - (if f x = true then (spr f x).1 + 1 else 0) + 1) else ((if f x = true then (spr f x).1 + 1 else 0), (spr f x).2.1, (spr f x).2.2) := rfl
      rw [es] at h1
      generalize (if f x = true then (spr f x).1 + 1 else 0) = l at h1 ⊢
      rw [show (x : Int) + 1 = ((x + 1 : Nat) : Int) by omega]
      by_cases g : (spr f x).2.1 < l
      · rw [if_pos g] at h1
        rw [if_neg (by omega), if_neg (by omega)]
        exact h1
      · rw [if_neg g] at h1
        rw [if_pos (by omega), if_pos (by omega)]
        exact h1
  exact loop 48 0 (by omega)
/-- the spans of bands with so many rows are known -/
def knw (s : Int → Int) (μ : zMem) (rows : Int) : Prop := ∀ row, 0 ≤ row → row + rows ≤ 36 → gI μ 13 (row * 36 + rows - 1) = SL s row rows ∧ gI μ 14 (row * 36 + rows - 1) = SF s row rows
def BND (s : Int → Int) (μ : zMem) : Prop := ∀ rows, 1 ≤ rows → rows ≤ 36 → 0 ≤ gI μ 15 rows ∧ gI μ 15 rows ≤ gI μ 2 1 ∧ (gI μ 15 rows = gI μ 2 1 → knw s μ rows)
/-- only what is known of the bands changes -/
def bnd (μ μ' : zMem) : Prop := gD μ' = gD μ ∧ gR μ' = gR μ ∧ gL μ' = gL μ ∧ ∀ q, q ≠ 13 → q ≠ 14 → q ≠ 15 → gI μ' q = gI μ q
theorem bnd.rf {μ : zMem} : bnd μ μ := ⟨rfl, rfl, rfl, fun _ _ _ _ => rfl⟩
theorem bnd.tr {μ μ' μ'' : zMem} (h : bnd μ μ') (h' : bnd μ' μ'') : bnd μ μ'' := ⟨h'.1.trans h.1, h'.2.1.trans h.2.1, h'.2.2.1.trans h.2.2.1, fun q a b c => (h'.2.2.2 q a b c).trans (h.2.2.2 q a b c)⟩
theorem bnd.w {μ μ' : zMem} {p : Nat} {i v : Int} (h : bnd μ μ') (hp : p = 13 ∨ p = 14 ∨ p = 15) : bnd μ (sI μ' p i v) := ⟨h.1, h.2.1, h.2.2.1, fun q a b c => by rw [gI_sIn (by omega)]; exact h.2.2.2 q a b c⟩
theorem pX0_learn {d : Nat} {Q : zMem → Prop} {μ : zMem} {s : Int → Int} {rows : Int} (hf : FRE μ 4 (freeB s)) (hb : BND s μ) (c1 : zIn (gI μ 2 1)) (r0 : 1 ≤ rows) (r1 : rows ≤ 36)
    (hQ : ∀ μ', bnd μ μ' → BND s μ' → gI μ' 15 rows = gI μ 2 1 → (∀ r, 1 ≤ r → r ≤ 36 → gI μ 15 r = gI μ 2 1 → gI μ' 15 r = gI μ 2 1) → Q μ') : kX0_learn (d + 1) rows μ Q := by
  have hb' := hb rows r0 r1
  have c1' := c1
  have cz : gI μ 2 1 < 2147483648 := c1.2
  refine bX0_learn ⟨by omega, by omega, zi _, c1, fun h => hQ μ bnd.rf hb h (fun _ _ _ q => q), fun h => ?_⟩
  have loop : ∀ (n r : Nat) (ξ : zMem), (r : Int) + n = 37 - rows → bnd μ ξ → gI ξ 15 = gI μ 15 → (∀ row : Int, 0 ≤ row → row < r → gI ξ 13 (row * 36 + rows - 1) = SL s row rows ∧ gI ξ 14 (row * 36 + rows - 1) = SF s row rows) → (∀ row w, 0 ≤ row → 1 ≤ w → row + w ≤ 36 → w ≠ rows → gI ξ 13 (row * 36 + w - 1) = gI μ 13 (row * 36 + w - 1) ∧ gI ξ 14 (row * 36 + w - 1) = gI μ 14 (row * 36 + w - 1)) → zX0_learn_16 d Q rows r ξ := by
    intro n
    induction n with
    | zero =>
      intro r ξ hr h1 h2 h3 h4
      have e2 : gI ξ 2 = gI μ 2 := h1.2.2.2 2 (by decide) (by decide) (by decide)
      refine bX0_learn_16 ⟨zi _, fun _ => ⟨by omega, by omega, ?_⟩, fun g => absurd (by omega) g⟩
      rw [e2]
      refine hQ _ (h1.w (by omega)) (fun w w0 w1 => ?_) gI_sIs (fun w _ _ q => ?_)
      · rw [gI_sIn (show (2 : Nat) ≠ 15 by decide), e2]
        by_cases e : w = rows
        · rw [e, gI_sIs]
          refine ⟨by omega, by omega, fun _ row a b => ?_⟩
          rw [gI_sIn (by decide), gI_sIn (by decide)]
          exact h3 row a (by omega)
        · rw [gI_sIo e, h2]
          have hw := hb w w0 w1
          refine ⟨hw.1, hw.2.1, fun q row a b => ?_⟩
          have h5 := h4 row w a w0 b e
          rw [gI_sIn (by decide), gI_sIn (by decide), h5.1, h5.2]
          exact hw.2.2 q row a b
      · by_cases e : w = rows
        · rw [e, gI_sIs]
        · rw [gI_sIo e, h2]
          exact q
    | succ n ih =>
      intro r ξ hr h1 h2 h3 h4
      refine bX0_learn_16 ⟨zi _, fun g => absurd g (by omega), fun _ => ?_⟩
      refine pX1_freeColumns (s := s) (fun y hy => by rw [h1.2.2.1]; exact hf y hy) (by omega) r0 (by omega) ?_
      intro m hm
      refine pX0_findSpan (by omega) (by omega) hm ?_
      rw [show (r : Int) + 1 = ((r + 1 : Nat) : Int) by omega]
      refine ih (r + 1) _ (by omega) ((h1.w (by omega)).w (by omega)) (by rw [gI_sIn (by decide), gI_sIn (by decide)]; exact h2) (fun row a b => ?_) (fun row w a b c e => ?_)
      · rw [gI_sIn (show (13 : Nat) ≠ 14 by decide)]
        by_cases e : row = r
        · rw [e, gI_sIs, gI_sIs]
          exact ⟨rfl, rfl⟩
        · rw [gI_sIo (by omega), gI_sIo (by omega), gI_sIn (show (14 : Nat) ≠ 13 by decide)]
          exact h3 row a (by omega)
      · rw [gI_sIn (show (13 : Nat) ≠ 14 by decide), gI_sIo (by omega), gI_sIo (by omega), gI_sIn (show (14 : Nat) ≠ 13 by decide)]
        exact h4 row w a b c e
  exact loop (37 - rows).toNat 0 μ (by omega) bnd.rf rfl (fun row a b => by omega) (fun row w _ _ _ _ => ⟨rfl, rfl⟩)
theorem pX0_lengthOf {d : Nat} {Q : Int → zMem → Prop} {μ : zMem} {s : Int → Int} {row rows : Int} (hk : knw s μ rows) (r0 : 0 ≤ row) (r1 : 1 ≤ rows) (r2 : row + rows ≤ 36) (hQ : Q (SL s row rows) μ) : kX0_lengthOf d row rows μ Q := by
  refine bX0_lengthOf ⟨by omega, by omega, ?_⟩
  rw [(hk row r0 r2).1]
  exact hQ
theorem pX0_firstOf {d : Nat} {Q : Int → zMem → Prop} {μ : zMem} {s : Int → Int} {row rows : Int} (hk : knw s μ rows) (r0 : 0 ≤ row) (r1 : 1 ≤ rows) (r2 : row + rows ≤ 36) (hQ : Q (SF s row rows) μ) : kX0_firstOf d row rows μ Q := by
  refine bX0_firstOf ⟨by omega, by omega, ?_⟩
  rw [(hk row r0 r2).2]
  exact hQ
