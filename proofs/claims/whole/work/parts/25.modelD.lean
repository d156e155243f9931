/-! the model lays lines -/
theorem pX8_sizeOf {d : Nat} {Q : Int → zMem → Prop} {μ : zMem} {s : Int → Int} {k b : Int} (hr : rowIs μ s) (k0 : 0 ≤ k) (k1 : k < 14) (hQ : Q (sz s b k) μ) : kX8_sizeOf (d + 1) k b μ Q := by
  refine bX8_sizeOf ?_
  refine pX8_of hr k0 k1 (by omega) (by omega) ?_
  rw [hr 74 (by omega) (by omega)]
  exact hQ
theorem pX8_least {d : Nat} {Q : Int → zMem → Prop} {μ : zMem} {s : Int → Int} {k b : Int} (h1 : zIn (sz s b k)) (h2 : zIn (sz s b (k - 1))) (hQ : Q (gp s b k) μ) : kX8_least d (sz s b k) (sz s b (k - 1)) μ Q := by
  refine bX8_least ⟨⟨h1, h2⟩, ?_⟩
  have e : (if sz s b (k - 1) ≤ sz s b k then sz s b (k - 1) else sz s b k) = gp s b k := by
    unfold gp
    by_cases h : sz s b k < sz s b (k - 1)
    · rw [if_pos h, if_neg (by omega)]
    · rw [if_neg h, if_pos (by omega)]
  rw [e]
  exact hQ
/-- no word is too small for its weight -/
def fitsW (s : Int → Int) (b : Int) : Nat → Bool
  | 0 => true
  | k + 1 => fitsW s b k && decide (s (74 + s (32 + 3 * k + 1)) ≤ sz s b k)
def isL (s : Int → Int) (b : Int) : Bool := decide (0 < s 31) && fitsW s b (s 31).toNat
theorem pX8_isLeast {d : Nat} {Q : Int → zMem → Prop} {μ : zMem} {s : Int → Int} {b : Int} (hr : rowIs μ s) (hw : wf s) (b0 : 1 ≤ b) (b1 : b ≤ 12) (hQ : Q (b2 (isL s b = true)) μ) : kX8_isLeast (d + 2) b μ Q := by
  have hn := hw.2.2.1
  have h31 : gI μ 55 31 = s 31 := hr 31 (by omega) (by omega)
  refine bX8_isLeast ?_
  rw [h31]
  refine ⟨zi _, ?_⟩
  have loop : ∀ (m k : Nat) (v : Bool), (k : Int) + m = s 31 → v = (decide (0 < s 31) && fitsW s b k) → zX8_isLeast_18 (d + 1) Q b (b2 (v = true)) k μ := by
    intro m
    induction m with
    | zero =>
      intro k v hk hv
      refine bX8_isLeast_18 ?_
      rw [h31]
      refine ⟨zi _, zi _, fun _ => ⟨b2_01 _, ?_⟩, fun h => absurd (by omega) h⟩
      have e : k = (s 31).toNat := by omega
      rw [hv, e]
      exact hQ
    | succ m ih =>
      intro k v hk hv
      have hwk := hw.2.2.2.1 k (by omega) (by omega)
      refine bX8_isLeast_18 ?_
      rw [h31]
      refine ⟨zi _, zi _, fun h => absurd h (by omega), fun _ => ⟨b2_in _, fun h => ?_, fun h => ?_⟩⟩
      · rw [b2_0] at h
        have e : v = false := by cases v <;> simp_all
        have := ih (k + 1) false (by omega) (by rw [e] at hv; unfold fitsW; rw [← Bool.and_assoc, ← hv]; rfl)
        exact this
      · rw [b2_0, Classical.not_not] at h
        refine pX8_sizeOf hr (by omega) (by omega) ?_
        refine pX8_of hr (by omega) (by omega) (by omega) (by omega) ⟨by omega, by omega, ?_⟩
        have hs := sz_bd hw b0 b1 (show (0 : Int) ≤ k by omega) (by omega)
        have e1 : gI μ 55 (75 + s (32 + 3 * (k : Int) + 1) - 1) = s (74 + s (32 + 3 * (k : Int) + 1)) := by
          rw [hr _ (by omega) (by omega)]
          congr 1
          omega
        rw [e1]
        have hl : 1 ≤ s (74 + s (32 + 3 * (k : Int) + 1)) ∧ s (74 + s (32 + 3 * (k : Int) + 1)) ≤ 20 := by
          have h6 := hw.2.2.2.2.2
          rcases (show s (32 + 3 * (k : Int) + 1) = 1 ∨ s (32 + 3 * (k : Int) + 1) = 2 ∨ s (32 + 3 * (k : Int) + 1) = 3 by omega) with e | e | e <;> rw [e]
          · exact h6.1
          · exact h6.2.1
          · exact h6.2.2.1
        refine ⟨⟨zi _, zi _⟩, ?_⟩
        have := ih (k + 1) (fitsW s b (k + 1)) (by omega) (by
          have : decide (0 < s 31) = true := by rw [decide_eq_true_eq]; omega
          rw [this]; rfl)
        have e2 : (if sz s b k < s (74 + s (32 + 3 * (k : Int) + 1)) then (0 : Int) else 1) = b2 (fitsW s b (k + 1) = true) := by
          have hf : fitsW s b k = true := by
            rw [h] at hv
            have := hv.symm
            rw [Bool.and_eq_true] at this
            exact this.2
          unfold fitsW
          rw [hf]
          simp only [Bool.true_and, decide_eq_true_eq]
          unfold b2
          by_cases c : sz s b k < s (74 + s (32 + 3 * (k : Int) + 1))
          · rw [if_pos c, if_neg (by omega)]
          · rw [if_neg c, if_pos (by omega)]
        rw [e2]
        exact this
  have h0 := loop (s 31).toNat 0 (decide (0 < s 31)) (by omega) (by simp [fitsW])
  have e : (if s 31 ≤ 0 then (0 : Int) else 1) = b2 (decide (0 < s 31) = true) := by
    rw [b2_eq (show (decide (0 < s 31) = true) ↔ 0 < s 31 by rw [decide_eq_true_eq])]
    unfold b2
    by_cases c : s 31 ≤ 0
    · rw [if_pos c, if_neg (by omega)]
    · rw [if_neg c, if_pos (by omega)]
  rw [e]
  exact h0
/-! bits of a code -/
theorem i32_n (n : Nat) : Int32.ofInt (n : Int) = nI n := Int32.ofInt_eq_ofNat
theorem sh31 : ∀ r : Nat, r < 32 → ((Int32.ofInt (r : Int) &&& 31).toBitVec.smod 32).toNat = r := by decide +kernel
theorem pX8_breaks {d : Nat} {Q : Int → zMem → Prop} {μ : zMem} {c r : Nat} {k : Int} (k0 : 1 ≤ k) (k1 : k < 14) (hr : gI μ 55 31 - 1 - k = r) (r1 : r < 14) (hc : c < 2 ^ 13) (hQ : Q (b2 (c.testBit r = true)) μ) : kX8_breaks d c k μ Q := by
  refine bX8_breaks ⟨zi _, fun h => absurd h (by omega), fun _ => ⟨((c / 2 ^ r : Nat) : Int), ?_, ((c / 2 ^ r % 2 : Nat) : Int), ?_, zi _ (by omega), ?_⟩⟩
  · rw [hr, i32_n, i32_n]
    exact pk_shrN (by omega) _ r (sh31 r (by omega))
  · rw [i32_n, i32_n]
    have hlt : c / 2 ^ r < 2 ^ 32 := Nat.lt_of_le_of_lt (Nat.div_le_self c (2 ^ r)) (by omega)
    exact pk_andN hlt (m := Int32.ofInt 1) 1 rfl
  · have e : (if ((c / 2 ^ r % 2 : Nat) : Int) = 1 then (1 : Int) else 0) = b2 (c.testBit r = true) := by
      refine b2_eq (p := ((c / 2 ^ r % 2 : Nat) : Int) = 1) ?_
      rw [Nat.testBit_eq_decide_div_mod_eq, decide_eq_true_eq]
      omega
    rw [e]
    exact hQ
/-! what 'lays' changes -/
def frl (μ μ' : zMem) : Prop := clsame μ μ' ∧ gL μ' = gL μ ∧ (∀ q, q ≠ 54 → q ≠ 59 → q ≠ 60 → q ≠ 61 → gI μ' q = gI μ q) ∧ ∀ i, i ≠ 7 → i ≠ 10 → i ≠ 11 → gI μ' 54 i = gI μ 54 i
theorem frl.rf {μ : zMem} : frl μ μ := ⟨clsame.rf, rfl, fun _ _ _ _ _ => rfl, fun _ _ _ _ => rfl⟩
theorem frl.tr {μ μ' μ'' : zMem} (h : frl μ μ') (h' : frl μ' μ'') : frl μ μ'' := ⟨h.1.tr h'.1, h'.2.1.trans h.2.1, fun q a b c e => (h'.2.2.1 q a b c e).trans (h.2.2.1 q a b c e), fun i a b c => (h'.2.2.2 i a b c).trans (h.2.2.2 i a b c)⟩
theorem frl.sI {μ μ' : zMem} {p : Nat} {i v : Int} (h : frl μ μ') (hp : p = 59 ∨ p = 60 ∨ p = 61 ∨ (p = 54 ∧ (i = 7 ∨ i = 10 ∨ i = 11))) : frl μ (sI μ' p i v) := by
  refine ⟨h.1.sI (by omega), h.2.1, fun q a b c e => ?_, fun j a b c => ?_⟩
  · rw [gI_sIn (by omega)]
    exact h.2.2.1 q a b c e
  · rw [gI_sI, if_neg (by omega)]
    exact h.2.2.2 j a b c
theorem frl.row {μ μ' : zMem} {s : Int → Int} (h : frl μ μ') (hr : rowIs μ s) : rowIs μ' s := fun i a b => by rw [h.2.2.1 55 (by omega) (by omega) (by omega) (by omega)]; exact hr i a b
theorem frl.msc {μ μ' : zMem} (h : frl μ μ') : msc μ μ' := ⟨h.1, h.2.2.1 55 (by omega) (by omega) (by omega) (by omega), h.2.2.1 63 (by omega) (by omega) (by omega) (by omega), h.2.2.2 1 (by omega) (by omega) (by omega), h.2.2.2 15 (by omega) (by omega) (by omega)⟩
theorem frl.sp {μ μ' : zMem} {s : Int → Int} (h : frl μ μ') (hs : spOK s μ) : spOK s μ' := fun row rows a b c => by
  rw [h.2.2.1 56 (by omega) (by omega) (by omega) (by omega), h.2.2.1 57 (by omega) (by omega) (by omega) (by omega)]
  exact hs row rows a b c
/-- words first .. k - 1 stand in the model's rows -/
def plc (s : Int → Int) (b : Int) (C LO : Int → Int) (lo hi : Int) (μ : zMem) : Prop := ∀ i, lo ≤ i → i < hi → gI μ 60 (5 * i) = C i ∧ gI μ 60 (5 * i + 1) = wd s b i ∧ gI μ 60 (5 * i + 2) = sz s b i ∧ gI μ 60 (5 * i + 3) = LO i
def PE (s : Int → Int) (b first st : Int) : Nat → Int
  | 0 => st
  | j + 1 => COL s b first st j + wd s b (first + j)
theorem pX8_places {d : Nat} {Q : zMem → Prop} {μ : zMem} {s : Int → Int} {b l first k st : Int} (hr : rowIs μ s) (hw : wf s) (b0 : 1 ≤ b) (b1 : b ≤ 12) (l0 : 0 ≤ l) (l1 : l < 14) (f0 : 0 ≤ first) (fk : first < k) (k1 : k ≤ s 31)
    (e0 : gI μ 59 (7 * l) = first) (e1 : gI μ 59 (7 * l + 1) = k - first) (e6 : 0 ≤ gI μ 59 (7 * l + 6) ∧ gI μ 59 (7 * l + 6) ≤ 100) (est : st = gI μ 59 (7 * l + 5) + ind s (gI μ 59 (7 * l + 6)))
    (hQ : ∀ μ', frl μ μ' → (∀ q, q ≠ 60 → gI μ' q = gI μ q) → (∀ x, x < 5 * first → gI μ' 60 x = gI μ 60 x) → plc s b (fun i => COL s b first st (i - first).toNat) (fun _ => l) first k μ' → Q μ') : kX8_places (d + 2) b l μ Q := by
  have hn := hw.2.2.1
  have h80 : gI μ 55 80 = s 80 := hr 80 (by omega) (by omega)
  have ha := hw.2.2.2.2.2.2.2.2.2.2.1
  refine bX8_places ⟨by omega, by omega, by omega, by omega, by omega, by omega, ?_⟩
  rw [h80]
  refine ⟨⟨zi _, fun _ => trivial, fun _ => ⟨fun _ => zi _, fun _ => trivial⟩⟩, ?_⟩
  have et : gI μ 59 (7 * l + 5) + (if s 80 = 0 then 0 else if s 80 = 1 then (gI μ 59 (7 * l + 6)).tdiv 2 else gI μ 59 (7 * l + 6)) = st := by
    rw [est, Int.tdiv_eq_ediv_of_nonneg e6.1]
    rfl
  rw [et, e0]
  have loop : ∀ (m j : Nat) (ξ : zMem), first + j + m = k → frl μ ξ → (∀ q, q ≠ 60 → gI ξ q = gI μ q) → (∀ x, x < 5 * first → gI ξ 60 x = gI μ 60 x) → plc s b (fun i => COL s b first st (i - first).toNat) (fun _ => l) first (first + j) ξ →
      zX8_places_75 (d + 1) Q b l first (PE s b first st j) (first + j) ξ := by
    intro m
    induction m with
    | zero =>
      intro j ξ hj h1 h2 h3 h4
      refine bX8_places_75 ⟨by omega, by omega, ?_⟩
      rw [h2 59 (by decide), e1]
      refine ⟨zi _, zi _, fun _ => ?_, fun h => absurd (by omega) h⟩
      have : first + (j : Int) = k := by omega
      rw [this] at h4
      exact hQ ξ h1 h2 h3 h4
    | succ m ih =>
      intro j ξ hj h1 h2 h3 h4
      have hrx := h1.row hr
      have s1 := sz_bd hw b0 b1 (show 0 ≤ first + (j : Int) by omega) (by omega)
      refine bX8_places_75 ⟨by omega, by omega, ?_⟩
      rw [h2 59 (by decide), e1]
      refine ⟨zi _, zi _, fun h => absurd h (by omega), fun _ => ?_⟩
      refine pX8_sizeOf hrx (by omega) (by omega) ⟨zi _, ?_⟩
      have done : ∀ g, (PE s b first st j) + g = COL s b first st j → zX8_places_128 (d + 1) Q b l first (first + j) (sz s b (first + j)) g (PE s b first st j) ξ := by
        intro g hg
        refine bX8_places_128 ⟨by omega, by omega, ?_⟩
        rw [hg]
        have g1 : frl μ (sI ξ 60 (5 * (first + j)) (COL s b first st j)) := h1.sI (by omega)
        refine pX8_of (g1.row hr) (by omega) (by omega) (by omega) (by omega) ⟨by omega, by omega, by omega, by omega, by omega, by omega, ?_⟩
        have ew : s (32 + 3 * (first + (j : Int)) + 0) * sz s b (first + j) = wd s b (first + j) := rfl
        rw [ew]
        have g2 := ((g1.sI (p := 60) (i := 5 * (first + (j : Int)) + 1) (v := wd s b (first + j)) (by omega)).sI (p := 60) (i := 5 * (first + (j : Int)) + 2) (v := sz s b (first + j)) (by omega)).sI (p := 60) (i := 5 * (first + (j : Int)) + 3) (v := l) (by omega)
        refine pX8_of (g2.row hr) (by omega) (by omega) (by omega) (by omega) ?_
        rw [ew]
        have hnext := ih (j + 1) _ (by omega) g2 (fun q hq => by rw [gI_sIn hq, gI_sIn hq, gI_sIn hq, gI_sIn hq]; exact h2 q hq) (fun x hx => by rw [gI_sIo (by omega), gI_sIo (by omega), gI_sIo (by omega), gI_sIo (by omega)]; exact h3 x hx) (fun i a c => by
          by_cases e : i = first + j
          · subst e
            have ej : (first + (j : Int) - first).toNat = j := by omega
            refine ⟨?_, ?_, ?_, ?_⟩
            · rw [gI_sIo (by omega), gI_sIo (by omega), gI_sIo (by omega), gI_sIs]
              show _ = COL s b first st (first + (j : Int) - first).toNat
              rw [ej]
            · rw [gI_sIo (by omega), gI_sIo (by omega), gI_sIs]
            · rw [gI_sIo (by omega), gI_sIs]
            · rw [gI_sIs]
          · have h5 := h4 i a (by omega)
            rw [gI_sIo (by omega), gI_sIo (by omega), gI_sIo (by omega), gI_sIo (by omega), gI_sIo (by omega), gI_sIo (by omega), gI_sIo (by omega), gI_sIo (by omega), gI_sIo (by omega), gI_sIo (by omega), gI_sIo (by omega), gI_sIo (by omega), gI_sIo (by omega), gI_sIo (by omega), gI_sIo (by omega), gI_sIo (by omega)]
            exact h5)
        rw [show first + (j : Int) + 1 = first + ((j + 1 : Nat) : Int) by omega]
        exact hnext
      by_cases hj0 : j = 0
      · subst hj0
        refine ⟨fun _ => done 0 (by simp [COL, PE]), fun h => absurd (by omega) h⟩
      · refine ⟨fun h => absurd h (by omega), fun _ => ?_⟩
        have s2 := sz_bd hw b0 b1 (show 0 ≤ first + (j : Int) - 1 by omega) (by omega)
        refine pX8_sizeOf hrx (by omega) (by omega) ?_
        refine pX8_least (zi _) (zi _) ?_
        refine done _ ?_
        obtain ⟨i, rfl⟩ : ∃ i, j = i + 1 := ⟨j - 1, by omega⟩
        show COL s b first st i + wd s b (first + i) + gp s b (first + ((i + 1 : Nat) : Int)) = COL s b first st i + wd s b (first + i) + gp s b (first + i + 1)
        rw [show first + ((i + 1 : Nat) : Int) = first + i + 1 by omega]
  have h0 := loop (k - first).toNat 0 μ (by omega) frl.rf (fun _ _ => rfl) (fun _ _ => rfl) (fun i a c => by omega)
  rw [show first + ((0 : Nat) : Int) = first by omega] at h0
  exact h0
theorem pX8_hasGap {d : Nat} {Q : Int → zMem → Prop} {μ : zMem} {w lo fo : Int} (w0 : 0 ≤ w) (w1 : w < 14) (h1 : gI μ 60 (5 * w + 3) = lo) (lo0 : 0 ≤ lo) (lo1 : lo < 14) (h2 : gI μ 59 (7 * lo) = fo) (f0 : 0 ≤ fo) (f1 : fo < 14) (hQ : Q (b2 (w ≠ fo)) μ) : kX8_hasGap d w μ Q := by
  refine bX8_hasGap ?_
  rw [h1, h2]
  refine ⟨by omega, by omega, by omega, by omega, ⟨zi _, zi _⟩, ?_⟩
  have e : (if w = fo then (0 : Int) else 1) = b2 (w ≠ fo) := by
    unfold b2
    by_cases c : w = fo
    · rw [if_pos c, if_neg (fun q => q c)]
    · rw [if_neg c, if_pos c]
  rw [e]
  exact hQ
theorem pX8_gapFrom {d : Nat} {Q : Int → zMem → Prop} {μ : zMem} {w c v : Int} (w0 : 1 ≤ w) (w1 : w < 15) (h1 : gI μ 60 (5 * (w - 1)) = c) (h2 : gI μ 60 (5 * (w - 1) + 1) = v) (hQ : Q (c + v) μ) : kX8_gapFrom d w μ Q := by
  refine bX8_gapFrom ?_
  rw [h1, h2]
  exact ⟨by omega, by omega, by omega, by omega, hQ⟩
/-- do the gaps before two words touch? -/
theorem pX8_touch {d : Nat} {Q : Int → zMem → Prop} {μ : zMem} {a c la lc fa fc Ca Cc Ga Gc : Int} (a0 : 0 ≤ a) (a1 : a < 14) (c0 : 0 ≤ c) (c1 : c < 14) (h1 : gI μ 60 (5 * a + 3) = la) (la0 : 0 ≤ la) (la1 : la < 14) (h2 : gI μ 59 (7 * la) = fa) (fa0 : 0 ≤ fa) (fa1 : fa < 14) (fa2 : fa ≤ a)
    (h3 : gI μ 60 (5 * c + 3) = lc) (lc0 : 0 ≤ lc) (lc1 : lc < 14) (h4 : gI μ 59 (7 * lc) = fc) (fc0 : 0 ≤ fc) (fc1 : fc < 14) (fc2 : fc ≤ c) (h5 : gI μ 60 (5 * a) = Ca) (h6 : gI μ 60 (5 * c) = Cc) (h7 : a ≠ fa → ∃ x y, gI μ 60 (5 * (a - 1)) = x ∧ gI μ 60 (5 * (a - 1) + 1) = y ∧ x + y = Ga) (h8 : c ≠ fc → ∃ x y, gI μ 60 (5 * (c - 1)) = x ∧ gI μ 60 (5 * (c - 1) + 1) = y ∧ x + y = Gc)
    (z1 : zIn Ca) (z2 : zIn Cc) (z3 : a ≠ fa → zIn Ga) (z4 : c ≠ fc → zIn Gc) (hQ : Q (b2 (a ≠ fa ∧ c ≠ fc ∧ Ga < Cc ∧ Gc < Ca)) μ) : kX8_touch (d + 1) a c μ Q := by
  refine bX8_touch ?_
  refine pX8_hasGap a0 a1 h1 la0 la1 h2 fa0 fa1 ⟨b2_in _, fun h => ?_, fun h => ?_⟩
  · rw [b2_0] at h
    have : b2 (a ≠ fa ∧ c ≠ fc ∧ Ga < Cc ∧ Gc < Ca) = 0 := by rw [b2_0]; exact fun q => h q.1
    rw [this] at hQ
    exact hQ
  rw [b2_0, Classical.not_not] at h
  refine pX8_hasGap c0 c1 h3 lc0 lc1 h4 fc0 fc1 ⟨b2_in _, fun h' => ?_, fun h' => ?_⟩
  · rw [b2_0] at h'
    have : b2 (a ≠ fa ∧ c ≠ fc ∧ Ga < Cc ∧ Gc < Ca) = 0 := by rw [b2_0]; exact fun q => h' q.2.1
    rw [this] at hQ
    exact hQ
  rw [b2_0, Classical.not_not] at h'
  obtain ⟨x, y, e1, e2, e3⟩ := h7 h
  obtain ⟨x', y', e4, e5, e6⟩ := h8 h'
  refine pX8_gapFrom (by omega) (by omega) e1 e2 ?_
  rw [e3, h6]
  refine ⟨by omega, by omega, z3 h, z2, fun q => ?_, fun q => ?_⟩
  · have : b2 (a ≠ fa ∧ c ≠ fc ∧ Ga < Cc ∧ Gc < Ca) = 0 := by rw [b2_0]; omega
    rw [this] at hQ
    exact hQ
  · refine pX8_gapFrom (by omega) (by omega) e4 e5 ?_
    rw [e6, h5]
    refine ⟨by omega, by omega, ⟨z4 h', z1⟩, ?_⟩
    have e : (if Ca ≤ Gc then (0 : Int) else 1) = b2 (a ≠ fa ∧ c ≠ fc ∧ Ga < Cc ∧ Gc < Ca) := by
      unfold b2
      by_cases w : Ca ≤ Gc
      · rw [if_pos w, if_neg (by omega)]
      · rw [if_neg w, if_pos ⟨h, h', by omega, by omega⟩]
    rw [e]
    exact hQ
