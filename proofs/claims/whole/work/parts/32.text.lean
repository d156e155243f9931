/-! the text -/
def isLet (c : Int) : Bool := decide ((65 ≤ c ∧ c ≤ 90) ∨ (97 ≤ c ∧ c ≤ 122))
theorem isLet_iff {c : Int} : isLet c = true ↔ (65 ≤ c ∧ c ≤ 90) ∨ (97 ≤ c ∧ c ≤ 122) := by
  unfold isLet
  rw [decide_eq_true_eq]
/-- words so far, what stands before (0 nothing, 1 letters, 2 exclamation marks, 3 a blank behind a word, 4 a slash), the words -/
def tstep (n p : Int) (W : Int → Int) (c : Int) : Option (Int × Int × (Int → Int)) :=
  if isLet c = true then
    (if p = 1 then (if 12 ≤ W (3 * (n - 1)) then none else some (n, 1, fu W (3 * (n - 1)) (W (3 * (n - 1)) + 1)))
    else if p = 2 then none
    else if 14 ≤ n then none else some (n + 1, 1, fu (fu (fu W (3 * n) 1) (3 * n + 1) 1) (3 * n + 2) (if p = 4 then 1 else 0)))
  else if c = 33 then (if p = 1 ∨ p = 2 then (if 3 ≤ W (3 * (n - 1) + 1) then none else some (n, 2, fu W (3 * (n - 1) + 1) (W (3 * (n - 1) + 1) + 1))) else none)
  else if c = 47 then (if p ≠ 0 ∧ p ≠ 4 then some (n, 4, W) else none)
  else if c = 32 then some (n, (if p = 1 ∨ p = 2 then 3 else p), W)
  else none
def trun (t : Int → Int) : Nat → Int → Int → Int → (Int → Int) → Int × Int × Int × (Int → Int)
  | 0, i, n, p, W => (if p = 4 then i else -1, n, p, W)
  | m + 1, i, n, p, W => match tstep n p W (t i) with
    | none => (i, n, p, W)
    | some st => trun t m (i + 1) st.1 st.2.1 st.2.2
theorem trun_some {t : Int → Int} {len i n p n' p' : Int} {W W' : Int → Int} (h : i < len) (hs : tstep n p W (t i) = some (n', p', W')) : trun t (len - i).toNat i n p W = trun t (len - (i + 1)).toNat (i + 1) n' p' W' := by
  rw [show (len - i).toNat = (len - (i + 1)).toNat + 1 by omega]
  show (match tstep n p W (t i) with | none => _ | some st => _) = _
  rw [hs]
theorem trun_none {t : Int → Int} {len i n p : Int} {W : Int → Int} (h : i < len) (hs : tstep n p W (t i) = none) : trun t (len - i).toNat i n p W = (i, n, p, W) := by
  rw [show (len - i).toNat = (len - (i + 1)).toNat + 1 by omega]
  show (match tstep n p W (t i) with | none => _ | some st => _) = _
  rw [hs]
theorem trun_end {t : Int → Int} {len i n p : Int} {W : Int → Int} (h : len ≤ i) : trun t (len - i).toNat i n p W = (if p = 4 then i else -1, n, p, W) := by
  rw [show (len - i).toNat = 0 by omega]
  rfl
def pB (p : Int) : Int := if p = 1 ∨ p = 2 then 3 else p
theorem pB_pB (p : Int) : pB (pB p) = pB p := by
  unfold pB
  by_cases h : p = 1 ∨ p = 2
  · rw [if_pos h]
    decide
  · rw [if_neg h, if_neg h]
theorem tstep_blank {n p : Int} {W : Int → Int} : tstep n p W 32 = some (n, pB p, W) := by
  unfold tstep pB
  rw [if_neg (by decide), if_neg (by decide), if_neg (by decide), if_pos rfl]
theorem trun_blanks {t : Int → Int} {len n : Int} {W : Int → Int} : ∀ (m : Nat) (i p : Int), i + m ≤ len → (∀ x, i ≤ x → x < i + m → t x = 32) → trun t (len - i).toNat i n p W = trun t (len - (i + m)).toNat (i + m) n (if m = 0 then p else pB p) W
  | 0, i, p, _, _ => by simp
  | m + 1, i, p, h, ht => by
    have e := ht i (by omega) (by omega)
    rw [trun_some (n' := n) (p' := pB p) (W' := W) (by omega) (by rw [e]; exact tstep_blank), trun_blanks m (i + 1) (pB p) (by omega) (fun x a b => ht x (by omega) (by omega))]
    have e' : (if m = 0 then pB p else pB (pB p)) = pB p := by
      rw [pB_pB]
      split <;> rfl
    rw [show i + 1 + (m : Int) = i + ((m + 1 : Nat) : Int) by omega, e', if_neg (show ¬ m + 1 = 0 by omega)]
def TI (n p : Int) (W : Int → Int) : Prop := (0 ≤ n ∧ n ≤ 14) ∧ (0 ≤ p ∧ p ≤ 4) ∧ (p = 1 ∨ p = 2 → 1 ≤ n) ∧ ∀ k, 0 ≤ k → k < n → 1 ≤ W (3 * k) ∧ W (3 * k) ≤ 12 ∧ 1 ≤ W (3 * k + 1) ∧ W (3 * k + 1) ≤ 3 ∧ 0 ≤ W (3 * k + 2) ∧ W (3 * k + 2) ≤ 1
theorem TI_step {n p n' p' c : Int} {W W' : Int → Int} (h : TI n p W) (hs : tstep n p W c = some (n', p', W')) : TI n' p' W' := by
  obtain ⟨h1, h2, h3, h4⟩ := h
  unfold tstep at hs
  by_cases hl : isLet c = true
  · rw [if_pos hl] at hs
    by_cases p1 : p = 1
    · rw [if_pos p1] at hs
      by_cases hc : 12 ≤ W (3 * (n - 1))
      · rw [if_pos hc] at hs
        cases hs
      · rw [if_neg hc] at hs
        injection hs with hs
        injection hs with e1 hs
        injection hs with e2 e3
        subst e1 e2 e3
        refine ⟨h1, by omega, fun _ => h3 (Or.inl p1), fun k a b => ?_⟩
        have h5 := h4 k a b
        rw [fu_o (show 3 * k + 1 ≠ 3 * (n - 1) by omega), fu_o (show 3 * k + 2 ≠ 3 * (n - 1) by omega)]
        by_cases e : k = n - 1
        · subst e
          rw [fu_s]
          omega
        · rw [fu_o (by omega)]
          exact h5
    · rw [if_neg p1] at hs
      by_cases p2 : p = 2
      · rw [if_pos p2] at hs
        cases hs
      · rw [if_neg p2] at hs
        by_cases hn : 14 ≤ n
        · rw [if_pos hn] at hs
          cases hs
        · rw [if_neg hn] at hs
          injection hs with hs
          injection hs with e1 hs
          injection hs with e2 e3
          subst e1 e2 e3
          refine ⟨by omega, by omega, fun _ => by omega, fun k a b => ?_⟩
          by_cases e : k = n
          · subst e
            rw [fu_s, fu_o (show 3 * k ≠ 3 * k + 2 by omega), fu_o (show 3 * k ≠ 3 * k + 1 by omega), fu_s, fu_o (show 3 * k + 1 ≠ 3 * k + 2 by omega), fu_s]
            split <;> omega
          · rw [fu_o (by omega), fu_o (by omega), fu_o (by omega), fu_o (by omega), fu_o (by omega), fu_o (by omega), fu_o (by omega), fu_o (by omega), fu_o (by omega)]
            exact h4 k a (by omega)
  · rw [if_neg hl] at hs
    by_cases h33 : c = 33
    · rw [if_pos h33] at hs
      by_cases hp : p = 1 ∨ p = 2
      · rw [if_pos hp] at hs
        by_cases hc : 3 ≤ W (3 * (n - 1) + 1)
        · rw [if_pos hc] at hs
          cases hs
        · rw [if_neg hc] at hs
          injection hs with hs
          injection hs with e1 hs
          injection hs with e2 e3
          subst e1 e2 e3
          refine ⟨h1, by omega, fun _ => h3 hp, fun k a b => ?_⟩
          have h5 := h4 k a b
          rw [fu_o (show 3 * k ≠ 3 * (n - 1) + 1 by omega), fu_o (show 3 * k + 2 ≠ 3 * (n - 1) + 1 by omega)]
          by_cases e : k = n - 1
          · subst e
            rw [fu_s]
            omega
          · rw [fu_o (by omega)]
            exact h5
      · rw [if_neg hp] at hs
        cases hs
    · rw [if_neg h33] at hs
      by_cases h47 : c = 47
      · rw [if_pos h47] at hs
        by_cases hp : p ≠ 0 ∧ p ≠ 4
        · rw [if_pos hp] at hs
          injection hs with hs
          injection hs with e1 hs
          injection hs with e2 e3
          subst e1 e2 e3
          exact ⟨h1, by omega, fun q => by omega, h4⟩
        · rw [if_neg hp] at hs
          cases hs
      · rw [if_neg h47] at hs
        by_cases h32 : c = 32
        · rw [if_pos h32] at hs
          injection hs with hs
          injection hs with e1 hs
          injection hs with e2 e3
          subst e1 e2 e3
          refine ⟨h1, by split <;> omega, fun q => ?_, h4⟩
          by_cases hp : p = 1 ∨ p = 2
          · exact h3 hp
          · rw [if_neg hp] at q
            exact absurd q hp
        · rw [if_neg h32] at hs
          cases hs
theorem TI_run {t : Int → Int} : ∀ (m : Nat) (i n p : Int) (W : Int → Int), TI n p W → TI (trun t m i n p W).2.1 (trun t m i n p W).2.2.1 (trun t m i n p W).2.2.2
  | 0, i, n, p, W, h => h
  | m + 1, i, n, p, W, h => by
    rw [show trun t (m + 1) i n p W = (match tstep n p W (t i) with | none => (i, n, p, W) | some st => trun t m (i + 1) st.1 st.2.1 st.2.2) from rfl]
    cases hs : tstep n p W (t i) with
    | none => exact h
    | some st => exact TI_run m (i + 1) _ _ _ (TI_step (n' := st.1) (p' := st.2.1) (W' := st.2.2) h hs)
theorem trun_bd {t : Int → Int} : ∀ (m : Nat) (i n p : Int) (W : Int → Int), 0 ≤ i → -1 ≤ (trun t m i n p W).1 ∧ (trun t m i n p W).1 ≤ i + m
  | 0, i, n, p, W, h => by
    unfold trun
    dsimp only
    split <;> omega
  | m + 1, i, n, p, W, h => by
    unfold trun
    cases hs : tstep n p W (t i) with
    | none =>
      dsimp only
      omega
    | some st =>
      have := trun_bd (t := t) m (i + 1) st.1 st.2.1 st.2.2 (by omega)
      dsimp only
      omega
def TXT (μ : zMem) (len : Int) (t : Int → Int) : Prop := gI μ 54 15 = len ∧ 0 ≤ len ∧ len ≤ 80 ∧ gI μ 63 = t ∧ ∀ x, 0 ≤ x → x < len → 0 ≤ t x ∧ t x ≤ 255
theorem pX8_isLetter {d : Nat} {Q : Int → zMem → Prop} {μ : zMem} {len i : Int} {t : Int → Int} (h : TXT μ len t) (hi : gI μ 54 16 = i) (i0 : 0 ≤ i) (i1 : i ≤ len) (hQ : Q (b2 (i < len ∧ isLet (t i) = true)) μ) : kX8_isLetter (d + 1) μ Q := by
  obtain ⟨h1, h2, h3, h4, h5⟩ := h
  refine bX8_isLetter ?_
  rw [hi, h1, h4]
  refine ⟨zi _, zi _, fun h => ?_, fun h => ?_⟩
  · rw [b2_0.mpr (by omega)] at hQ
    exact hQ
  · have tb := h5 i i0 (by omega)
    refine ⟨i0, by omega, pin (zi _) (zi _) (zi _) (fun g => ?_) (fun g => ?_)⟩
    · rw [hi, h4]
      refine ⟨i0, by omega, pX8_in (zi _) (zi _) (zi _) ⟨b2_in _, ?_⟩⟩
      rw [b2_ite, b2_eq (q := i < len ∧ isLet (t i) = true) (by rw [isLet_iff]; omega)]
      exact hQ
    · rw [b2_1.mpr ⟨by omega, isLet_iff.mpr (Or.inl g)⟩] at hQ
      exact hQ
theorem pX8_isSign {d : Nat} {Q : Int → zMem → Prop} {μ : zMem} {len i c : Int} {t : Int → Int} (h : TXT μ len t) (hi : gI μ 54 16 = i) (i0 : 0 ≤ i) (i1 : i ≤ len) (hc : zIn c) (hQ : Q (b2 (i < len ∧ t i = c)) μ) : kX8_isSign d c μ Q := by
  obtain ⟨h1, h2, h3, h4, h5⟩ := h
  refine bX8_isSign ?_
  rw [hi, h1, h4]
  refine ⟨⟨zi _, zi _, fun _ => trivial, fun h => ?_⟩, ?_⟩
  · have tb := h5 i i0 (by omega)
    exact ⟨i0, by omega, zi _, hc⟩
  · have e : (if len ≤ i then (0 : Int) else if t i = c then 1 else 0) = b2 (i < len ∧ t i = c) := by
      unfold b2
      by_cases g : len ≤ i
      · rw [if_pos g, if_neg (by omega)]
      · rw [if_neg g]
        by_cases g' : t i = c
        · rw [if_pos g', if_pos ⟨by omega, g'⟩]
        · rw [if_neg g', if_neg (fun q => g' q.2)]
    rw [e]
    exact hQ
/-- what the reading changes -/
def mtx (μ μ' : zMem) : Prop := clsame μ μ' ∧ (∀ q, q ≠ 54 → q ≠ 64 → gI μ' q = gI μ q) ∧ (∀ i, i ≠ 16 → i ≠ 18 → gI μ' 54 i = gI μ 54 i)
theorem mtx.rf {μ : zMem} : mtx μ μ := ⟨clsame.rf, fun _ _ _ => rfl, fun _ _ _ => rfl⟩
theorem mtx.at {μ μ' : zMem} {v : Int} (h : mtx μ μ') : mtx μ (sI μ' 54 16 v) := ⟨h.1.sI (by omega), fun q a b => by rw [gI_sIn a]; exact h.2.1 q a b, fun i a b => by rw [gI_sIo a]; exact h.2.2 i a b⟩
theorem mtx.rd {μ μ' : zMem} {v : Int} (h : mtx μ μ') : mtx μ (sI μ' 54 18 v) := ⟨h.1.sI (by omega), fun q a b => by rw [gI_sIn a]; exact h.2.1 q a b, fun i a b => by rw [gI_sIo b]; exact h.2.2 i a b⟩
theorem mtx.wr {μ μ' : zMem} {i v : Int} (h : mtx μ μ') : mtx μ (sI μ' 64 i v) := ⟨h.1.sI (by omega), fun q a b => by rw [gI_sIn b]; exact h.2.1 q a b, fun i a b => by rw [gI_sIn (by decide)]; exact h.2.2 i a b⟩
theorem mtx.msc {μ μ' : zMem} (h : mtx μ μ') : msc μ μ' := ⟨h.1, h.2.1 55 (by decide) (by decide), h.2.1 63 (by decide) (by decide), h.2.2 1 (by decide) (by decide), h.2.2 15 (by decide) (by decide)⟩
theorem mtx.tx {μ μ' : zMem} {len : Int} {t : Int → Int} (h : mtx μ μ') (g : TXT μ len t) : TXT μ' len t := ⟨(h.2.2 15 (by decide) (by decide)).trans g.1, g.2.1, g.2.2.1, (h.2.1 63 (by decide) (by decide)).trans g.2.2.2.1, g.2.2.2.2⟩
theorem sI_sI (μ : zMem) (p : Nat) (i v v' : Int) : sI (sI μ p i v) p i v' = sI μ p i v' := by
  refine mem_ext rfl (fun q j => ?_) rfl rfl
  rw [gI_sI, gI_sI, gI_sI]
  split <;> rfl
theorem sI_id {μ : zMem} {p : Nat} {i v : Int} (h : gI μ p i = v) : sI μ p i v = μ := by
  refine mem_ext rfl (fun q j => ?_) rfl rfl
  rw [gI_sI]
  by_cases e : q = p ∧ j = i
  · rw [if_pos e, e.1, e.2, h]
  · rw [if_neg e]
theorem pX8_blanks {d : Nat} {Q : Int → zMem → Prop} {μ : zMem} {len i : Int} {t : Int → Int} (h : TXT μ len t) (hi : gI μ 54 16 = i) (i0 : 0 ≤ i) (i1 : i ≤ len)
    (hQ : ∀ m : Nat, i + m ≤ len → (∀ x, i ≤ x → x < i + m → t x = 32) → (i + m < len → t (i + m) ≠ 32) → Q (b2 (0 < m)) (sI μ 54 16 (i + m))) : kX8_blanks (d + 1) μ Q := by
  refine bX8_blanks ?_
  rw [hi]
  have loop : ∀ (f m : Nat) (ξ : zMem), i + m + f = len → ξ = sI μ 54 16 (i + m) → (∀ x, i ≤ x → x < i + m → t x = 32) → zX8_blanks_5 d Q i ξ := by
    intro f
    induction f with
    | zero =>
      intro m ξ hf hx hm
      have e16 : gI ξ 54 16 = i + m := by rw [hx, gI_sIs]
      have hT : TXT ξ len t := by rw [hx]; exact mtx.rf.at.tx h
      have len80 := h.2.2.1
      refine bX8_blanks_5 (pX8_isSign hT e16 (by omega) (by omega) (zi _) ⟨b2_in _, fun _ => ?_, fun g => ?_⟩)
      · rw [e16]
        refine ⟨⟨zi _, zi _⟩, ?_⟩
        have e : (if i + (m : Int) ≤ i then (0 : Int) else 1) = b2 (0 < m) := by
          unfold b2
          by_cases g : 0 < m
          · rw [if_pos g, if_neg (by omega)]
          · rw [if_neg g, if_pos (by omega)]
        rw [e, hx]
        exact hQ m (by omega) hm (fun q => by omega)
      · rw [b2_0, Classical.not_not] at g
        omega
    | succ f ih =>
      intro m ξ hf hx hm
      have e16 : gI ξ 54 16 = i + m := by rw [hx, gI_sIs]
      have hT : TXT ξ len t := by rw [hx]; exact mtx.rf.at.tx h
      have len80 := h.2.2.1
      refine bX8_blanks_5 (pX8_isSign hT e16 (by omega) (by omega) (zi _) ⟨b2_in _, fun g => ?_, fun g => ?_⟩)
      · rw [e16]
        rw [b2_0] at g
        refine ⟨⟨zi _, zi _⟩, ?_⟩
        have e : (if i + (m : Int) ≤ i then (0 : Int) else 1) = b2 (0 < m) := by
          unfold b2
          by_cases g : 0 < m
          · rw [if_pos g, if_neg (by omega)]
          · rw [if_neg g, if_pos (by omega)]
        rw [e, hx]
        exact hQ m (by omega) hm (fun q q' => g ⟨q, q'⟩)
      · rw [b2_0, Classical.not_not] at g
        refine ih (m + 1) _ (by omega) ?_ (fun x a c => ?_)
        · rw [e16, hx, sI_sI, show i + (m : Int) + 1 = i + ((m + 1 : Nat) : Int) by omega]
        · by_cases e : x = i + m
          · rw [e]
            exact g.2
          · exact hm x a (by omega)
  exact loop (len - i).toNat 0 μ (by omega) (by rw [sI_id]; rw [hi]; omega) (fun x a c => by omega)
