/-! the class's search is prepared -/
def l23 (μ μ' : zMem) : Prop := scf μ μ' ∧ ∀ q, q ≠ 23 → gI μ' q = gI μ q
theorem SP.of {s : Int → Int} {b : Int} {μ μ' : zMem} (h : SP s b μ) (e : ∀ q, 13 ≤ q → q ≤ 22 → gI μ' q = gI μ q) (e11 : ∀ i, 2 ≤ i → i ≤ 5 → gI μ' 11 i = gI μ 11 i) : SP s b μ' := by
  obtain ⟨⟨⟨m1, m2⟩, m3, m4⟩, k, a, c, f, g⟩ := h
  refine ⟨⟨⟨by rw [e 16 (by omega) (by omega)]; exact m1, by rw [e 17 (by omega) (by omega), e 18 (by omega) (by omega), e 19 (by omega) (by omega)]; exact m2⟩, by rw [e 20 (by omega) (by omega)]; exact m3, by rw [e 21 (by omega) (by omega), e 22 (by omega) (by omega)]; exact m4⟩, fun i x y row z w => by rw [e 13 (by omega) (by omega), e 14 (by omega) (by omega)]; exact k i x y row z w, by rw [e11 2 (by omega) (by omega)]; exact a, by rw [e11 3 (by omega) (by omega)]; exact c, by rw [e11 4 (by omega) (by omega)]; exact f, by rw [e11 5 (by omega) (by omega)]; exact g⟩
theorem pX4_findLeastCosts {d : Nat} {Q : zMem → Prop} {μ : zMem} {s : Int → Int} {b : Int} (hw : wf s) (b0 : 1 ≤ b) (b1 : b ≤ 12) (hs : SP s b μ) (hQ : ∀ μ', l23 μ μ' → LCT s b 0 μ' → Q μ') : kX4_findLeastCosts (d + 3) μ Q := by
  have hn := hw.2.2.1
  have ht := hw.2.2.2.2.2.2.2.2.1
  have lsp : ∀ {ξ : zMem}, l23 μ ξ → SP s b ξ := fun {ξ} h => hs.of (fun q a c => h.2 q (by omega)) (fun i a c => by rw [h.2 11 (by omega)])
  refine bX4_findLeastCosts ?_
  rw [hs.1.1.1]
  have outer : ∀ (n : Nat) (ξ : zMem), (n : Int) ≤ s 31 → l23 μ ξ → LCT s b n ξ → zX4_findLeastCosts_10 (d + 2) Q ((n : Int) - 1) ξ := by
    intro n
    induction n with
    | zero =>
      intro ξ h0 h1 h2
      exact bX4_findLeastCosts_10 ⟨zi _, fun _ => hQ ξ h1 h2, fun q => absurd (by omega) q⟩
    | succ w ih =>
      intro ξ h0 h1 h2
      rw [show ((w + 1 : Nat) : Int) - 1 = (w : Int) by omega]
      refine bX4_findLeastCosts_10 ⟨zi _, fun q => absurd q (by omega), fun _ => ?_⟩
      rw [(lsp h1).2.2.1]
      have inner : ∀ (m : Nat) (row : Int) (ζ : zMem), row + m = 36 → s 78 ≤ row → l23 μ ζ → LCT s b ((w + 1 : Nat) : Int) ζ → (∀ r, s 78 ≤ r → r < row → LCK s b (gI ζ 23 ((w : Int) * 36 + r)) w r ∧ -1 ≤ gI ζ 23 ((w : Int) * 36 + r) ∧ gI ζ 23 ((w : Int) * 36 + r) ≤ 2304 * (s 31 - w)) → zX4_findLeastCosts_19 (d + 2) Q w row ζ := by
        intro m
        induction m with
        | zero =>
          intro row ζ g0 g1 g2 g3 g4
          refine bX4_findLeastCosts_19 ⟨zi _, fun _ => ?_, fun q => absurd (by omega) q⟩
          rw [show (w : Int) + -1 = (w : Int) - 1 by omega]
          refine ih ζ (by omega) g2 (fun w' r a c e1 e2 => ?_)
          by_cases e : w' = w
          · rw [e]; exact g4 r e1 (by omega)
          · exact g3 w' r (by omega) c e1 e2
        | succ m ihm =>
          intro row ζ g0 g1 g2 g3 g4
          refine bX4_findLeastCosts_19 ⟨zi _, fun q => absurd q (by omega), fun _ => ?_⟩
          refine pX4_findLeastCost hw b0 b1 (lsp g2) (by omega) (by omega) (fun w' r a c e1 e2 => g3 w' r (by omega) c e1 e2) g1 (by omega) ?_
          intro v v1 v2 v3
          refine ⟨by omega, by omega, ?_⟩
          refine ihm (row + 1) _ (by omega) (by omega) ⟨g2.1.w (by omega), fun q a => by rw [gI_sIn a]; exact g2.2 q a⟩ (fun w' r a c e1 e2 => by rw [gI_sIo (by omega)]; exact g3 w' r a c e1 e2) (fun r a c => ?_)
          by_cases e : r = row
          · rw [e, gI_sIs]
            exact ⟨v1, v2, v3⟩
          · rw [gI_sIo (by omega)]
            exact g4 r a (by omega)
      exact inner (36 - s 78).toNat (s 78) ξ (by omega) (Int.le_refl _) h1 h2 (fun r a c => by omega)
  have h0 := outer (s 31).toNat μ (by omega) ⟨scf.rf, fun _ _ => rfl⟩ (fun w r a c => by omega)
  rw [show ((s 31).toNat : Int) - 1 = s 31 - 1 by omega] at h0
  exact h0
theorem pX4_prepare {d : Nat} {Q : Int → zMem → Prop} {μ : zMem} {s : Int → Int} {b : Int} (hw : wf s) (b0 : 1 ≤ b) (b1 : b ≤ 12) (hs : WST s μ) (hf : FRE μ 4 (freeB s)) (hb : BND s μ) (hz : zIn (gI μ 2 1)) (hno : isL s b ≠ true → ∀ μ', scf μ μ' → BND s μ' → Q 0 μ')
    (hok : isL s b = true → ∀ μ', scf μ μ' → BND s μ' → SP s b μ' → LCT s b 0 μ' → Q 1 μ') : kX4_prepare (d + 4) b (s 74) (s 81) μ Q := by
  have hn := hw.2.2.1
  have mb : ∀ {ξ : zMem}, mef μ ξ → BND s ξ := fun {ξ} h r x y => by
    rw [h.2 15 (by omega), h.2 2 (by omega)]
    have := hb r x y
    refine ⟨this.1, this.2.1, fun q row z w => ?_⟩
    rw [h.2 13 (by omega), h.2 14 (by omega)]
    exact this.2.2 q row z w
  refine bX4_prepare (pX3_measure hw b0 b1 hs (fun h μ' m => ⟨zi _, fun _ => hno h μ' m.1 (mb m), fun q => absurd rfl q⟩) (fun hl ξ m1 m2 => ⟨zi _, fun q => absurd q (by decide), fun _ => ?_⟩))
  simp only [gI_sIn (show (6 : Nat) ≠ 11 by decide)]
  have ws := m1.ws hs
  rw [ws.2.2 4 (by omega) (by omega), ws.2.2 5 (by omega) (by omega), ws.2.2 6 (by omega) (by omega)]
  generalize hν : sI (sI (sI (sI ξ 11 2 (s (74 + 4))) 11 3 (s (74 + 5))) 11 4 (s (74 + 6))) 11 5 (s 81) = ν
  have n1 : scf μ ν := by
    rw [← hν]
    exact (((m1.1.w (by omega)).w (by omega)).w (by omega)).w (by omega)
  have nq : ∀ q, q ≠ 11 → gI ν q = gI ξ q := fun q hq => by
    rw [← hν, gI_sIn hq, gI_sIn hq, gI_sIn hq, gI_sIn hq]
  have n11 : gI ν 11 2 = s 78 ∧ gI ν 11 3 = s 79 ∧ gI ν 11 4 = s 80 ∧ gI ν 11 5 = s 81 := by
    rw [← hν]
    refine ⟨?_, ?_, ?_, gI_sIs⟩
    · rw [gI_sIo (by decide), gI_sIo (by decide), gI_sIo (by decide), gI_sIs]; rfl
    · rw [gI_sIo (by decide), gI_sIo (by decide), gI_sIs]; rfl
    · rw [gI_sIo (by decide), gI_sIs]; rfl
  have nm : MEA s b ν := ⟨⟨by rw [nq 16 (by omega)]; exact m2.1.1, by rw [nq 17 (by omega), nq 18 (by omega), nq 19 (by omega)]; exact m2.1.2⟩, by rw [nq 20 (by omega)]; exact m2.2.1, by rw [nq 21 (by omega), nq 22 (by omega)]; exact m2.2.2⟩
  have e2 : gI ν 2 = gI μ 2 := n1.2.2.2 2 (by omega)
  have nb : BND s ν := fun r x y => by
    rw [nq 15 (by omega), nq 2 (by omega)]
    have := mb m1 r x y
    refine ⟨this.1, this.2.1, fun q row z w => ?_⟩
    rw [nq 13 (by omega), nq 14 (by omega)]
    exact this.2.2 q row z w
  have loop : ∀ (n : Nat) (k : Int) (ζ : zMem), k + n = s 31 → 0 ≤ k → bnd ν ζ → BND s ζ → (∀ i, 0 ≤ i → i < k → gI ζ 15 (sz s b i) = gI ν 2 1) → zX4_prepare_55 (d + 3) Q k ζ := by
    intro n
    induction n with
    | zero =>
      intro k ζ h0 k0 h1 h2 h3
      have z16 : gI ζ 16 = gI ν 16 := h1.2.2.2 16 (by omega) (by omega) (by omega)
      have zq : ∀ q, q ≠ 13 → q ≠ 14 → q ≠ 15 → gI ζ q = gI ν q := h1.2.2.2
      refine bX4_prepare_55 ⟨zi _, by rw [z16, nm.1.1]; exact zi _, fun _ => ?_, fun q => absurd (by rw [z16, nm.1.1]; omega) q⟩
      have zs : SP s b ζ := ⟨⟨⟨by rw [z16]; exact nm.1.1, by rw [zq 17 (by omega) (by omega) (by omega), zq 18 (by omega) (by omega) (by omega), zq 19 (by omega) (by omega) (by omega)]; exact nm.1.2⟩, by rw [zq 20 (by omega) (by omega) (by omega)]; exact nm.2.1, by rw [zq 21 (by omega) (by omega) (by omega), zq 22 (by omega) (by omega) (by omega)]; exact nm.2.2⟩, fun i a c => by
        have sb := sz_bd hw b0 b1 a c
        refine (h2 (sz s b i) (by omega) (by omega)).2.2 ?_
        rw [zq 2 (by omega) (by omega) (by omega)]
        exact h3 i a (by omega), by rw [zq 11 (by omega) (by omega) (by omega)]; exact n11⟩
      refine pX4_findLeastCosts hw b0 b1 zs ?_
      intro χ w1 w2
      refine hok hl χ (n1.tr (scf.tr ⟨h1.1, h1.2.1, h1.2.2.1, fun q a => zq q (by omega) (by omega) (by omega)⟩ w1.1)) (fun r x y => ?_) (zs.of (fun q a c => w1.2 q (by omega)) (fun i a c => by rw [w1.2 11 (by omega)])) w2
      rw [w1.2 15 (by omega), w1.2 2 (by omega)]
      have := h2 r x y
      refine ⟨this.1, this.2.1, fun q row z w => ?_⟩
      rw [w1.2 13 (by omega), w1.2 14 (by omega)]
      exact this.2.2 q row z w
    | succ n ih =>
      intro k ζ h0 k0 h1 h2 h3
      have z16 : gI ζ 16 = gI ν 16 := h1.2.2.2 16 (by omega) (by omega) (by omega)
      have z2 : gI ζ 2 = gI ν 2 := h1.2.2.2 2 (by omega) (by omega) (by omega)
      have sb := sz_bd hw b0 b1 k0 (show k < s 31 by omega)
      refine bX4_prepare_55 ⟨zi _, by rw [z16, nm.1.1]; exact zi _, fun q => absurd q (by rw [z16, nm.1.1]; omega), fun _ => ⟨by omega, by omega, ?_⟩⟩
      rw [h1.2.2.2 17 (by omega) (by omega) (by omega), (nm.1.2 k k0 (by omega)).1]
      refine pX0_learn (s := s) (fun y hy => by rw [h1.2.2.1, n1.2.2.1]; exact hf y hy) h2 (by rw [z2, e2]; exact hz) (by omega) (by omega) ?_
      intro χ w1 w2 w3 w4
      refine ih (k + 1) χ (by omega) (by omega) (h1.tr w1) w2 (fun i a c => ?_)
      rw [z2] at w3 w4
      by_cases e : i = k
      · rw [e]; exact w3
      · have sb' := sz_bd hw b0 b1 a (show i < s 31 by omega)
        exact w4 _ (by omega) (by omega) (h3 i a (by omega))
  exact loop (s 31).toNat 0 ν (by omega) (Int.le_refl _) bnd.rf nb (fun i a c => by omega)
/-! a line's words are placed, and its chains found -/
theorem pX4_placeWords {d : Nat} {Q : zMem → Prop} {μ : zMem} {s : Int → Int} {b first k row : Int} (hw : wf s) (b0 : 1 ≤ b) (b1 : b ≤ 12) (hs : SP s b μ) (f0 : 0 ≤ first) (fk : first < k) (k1 : k ≤ s 31) (r0 : 0 ≤ row) (hf : fit s b first k row)
    (hQ : ∀ μ', scf μ μ' → (∀ q, q ≠ 25 → q ≠ 26 → gI μ' q = gI μ q) → (∀ i, i < first → gI μ' 25 i = gI μ 25 i ∧ gI μ' 26 i = gI μ 26 i) → (∀ C i, first ≤ i → i < k → gI μ' 25 i = lC s b first k row C i) → (∀ C i, first < i → i < k → gI μ' 26 i = lC s b first k row C (i - 1) + wd s b (i - 1)) → Q μ') : kX4_placeWords (d + 1) first k row (lS s b first k row) μ Q := by
  have hn := hw.2.2.1
  have ha := hw.2.2.2.2.2.2.2.2.2.2.1
  have sq := lS_sq s hw b0 b1 f0 k1 hf.2
  have hlb := lH_bd hw b0 b1 f0 fk k1
  obtain ⟨hm, hk, h2, h3, h4, h5⟩ := hs
  refine bX4_placeWords ?_
  rw [h4]
  refine ⟨⟨zi _, fun _ => trivial, fun _ => ⟨fun _ => zi _ (by have := hf.2; omega), fun _ => trivial⟩⟩, ?_⟩
  refine hm.h hw f0 fk k1 (pX0_firstOf (hk.lh hw b0 b1 f0 fk k1) r0 hlb.1 hf.1 ⟨f0, by omega, ?_⟩)
  have ei : (if s 80 = 0 then (0 : Int) else if s 80 = 1 then (lS s b first k row).tdiv 2 else lS s b first k row) = ind s (lS s b first k row) := by
    rw [Int.tdiv_eq_ediv_of_nonneg hf.2]
    rfl
  rw [ei]
  generalize hst : SF s row (lH s b first k) + ind s (lS s b first k row) = st
  have cc : ∀ (C : Int → Int) i, first ≤ i → lC s b first k row C i = COL s b first st (i - first).toNat := fun C i a => by
    unfold lC
    rw [if_pos a, hst]
  have loop : ∀ (n : Nat) (i : Int) (ξ : zMem), i + n = k → first < i → scf μ ξ → (∀ q, q ≠ 25 → q ≠ 26 → gI ξ q = gI μ q) → (∀ i, i < first → gI ξ 25 i = gI μ 25 i ∧ gI ξ 26 i = gI μ 26 i) → (∀ j, first ≤ j → j < i → gI ξ 25 j = COL s b first st (j - first).toNat) → (∀ j, first < j → j < i → gI ξ 26 j = COL s b first st (j - 1 - first).toNat + wd s b (j - 1)) → zX4_placeWords_61 d Q k i ξ := by
    intro n
    induction n with
    | zero =>
      intro i ξ g0 g1 g2 g3 g4 g5 g6
      refine bX4_placeWords_61 ⟨zi _, zi _, fun _ => hQ ξ g2 g3 g4 (fun C j a c => ?_) (fun C j a c => ?_), fun q => absurd (by omega) q⟩
      · rw [cc C j a]; exact g5 j a (by omega)
      · rw [cc C (j - 1) (by omega)]; exact g6 j a (by omega)
    | succ n ih =>
      intro i ξ g0 g1 g2 g3 g4 g5 g6
      refine bX4_placeWords_61 ⟨zi _, zi _, fun q => absurd q (by omega), fun _ => ⟨by omega, by omega, by omega, by omega, ?_⟩⟩
      have m1 := (hm.1.2 (i - 1) (by omega) (by omega)).2.1
      have m2 := (hm.1.2 i (by omega) (by omega)).2.2
      rw [if_neg (by omega)] at m2
      rw [gI_sIs, gI_sIn (show (19 : Nat) ≠ 26 by decide), g3 18 (by decide) (by decide), g3 19 (by decide) (by decide), m1, m2, g5 (i - 1) (by omega) (by omega)]
      refine ih (i + 1) _ (by omega) (by omega) ((g2.w (by omega)).w (by omega)) (fun q a c => by rw [gI_sIn a, gI_sIn c]; exact g3 q a c) (fun j a => ?_) (fun j a c => ?_) (fun j a c => ?_)
      · rw [gI_sIo (by omega), gI_sIn (show (25 : Nat) ≠ 26 by decide), gI_sIn (show (26 : Nat) ≠ 25 by decide), gI_sIo (by omega)]
        exact g4 j a
      · by_cases e : j = i
        · rw [e, gI_sIs, show (i - first).toNat = (i - 1 - first).toNat + 1 by omega]
          show _ = COL s b first st (i - 1 - first).toNat + wd s b (first + ((i - 1 - first).toNat : Int)) + gp s b (first + ((i - 1 - first).toNat : Int) + 1)
          rw [show first + ((i - 1 - first).toNat : Int) = i - 1 by omega, show i - 1 + 1 = i by omega]
        · rw [gI_sIo e, gI_sIn (show (25 : Nat) ≠ 26 by decide)]
          exact g5 j a (by omega)
      · rw [gI_sIn (show (26 : Nat) ≠ 25 by decide)]
        by_cases e : j = i
        · rw [e, gI_sIs]
        · rw [gI_sIo e]
          exact g6 j a (by omega)
  refine loop (k - (first + 1)).toNat (first + 1) _ (by omega) (by omega) (scf.rf.w (by omega)) (fun q a c => gI_sIn a) (fun i a => ⟨gI_sIo (by omega), by rw [gI_sIn (by decide)]⟩) (fun j a c => ?_) (fun j a c => by omega)
  have : j = first := by omega
  rw [this, gI_sIs, show (first - first).toNat = 0 by omega]
  rfl
theorem pX4_longest {d : Nat} {Q : Int → zMem → Prop} {μ : zMem} {s C D : Int → Int} {b lo w hi l : Int} {p : Nat} (hp : (gD μ)[p]? = some (9, 14)) (l0 : 0 ≤ l) (l1 : l ≤ 100) (lo0 : 0 ≤ lo) (lo1 : lo ≤ 14) (hi0 : 0 ≤ hi) (hi1 : hi ≤ 14) (w0 : 0 ≤ w) (w1 : w < 14)
    (h25 : ∀ i, lo < i → i < hi → gI μ 25 i = C i ∧ gI μ 26 i = C (i - 1) + wd s b (i - 1) ∧ gI μ p i = D i ∧ 0 ≤ D i ∧ D i ≤ l ∧ zIn (C i) ∧ zIn (C (i - 1) + wd s b (i - 1))) (hw5 : gI μ 25 w = C w) (hw6 : gI μ 26 w = C (w - 1) + wd s b (w - 1)) (z1 : zIn (C w)) (z2 : zIn (C (w - 1) + wd s b (w - 1)))
    (hQ : Q (mx s b C D lo w (hi - lo - 1).toNat) μ) : kX4_longestTouching d w lo hi p μ Q := by
  refine bX4_longestTouching hp (by decide) ?_
  have loop : ∀ (n j : Nat), lo + 1 + j + n = (if lo + 1 ≤ hi then hi else lo + 1) → zX4_longestTouching_8 d Q w hi p (mx s b C D lo w j) (lo + 1 + j) μ := by
    intro n
    induction n with
    | zero =>
      intro j hj
      refine bX4_longestTouching_8 hp (by decide) ⟨zi _ (by split at hj <;> omega), zi _ (by split at hj <;> omega), fun _ => ?_, fun q => absurd (by split at hj <;> omega) q⟩
      have e : (hi - lo - 1).toNat = j := by split at hj <;> omega
      rw [e] at hQ
      exact hQ
    | succ n ih =>
      intro j hj
      have hlt : lo + 1 + (j : Int) < hi := by split at hj <;> omega
      have hx := h25 (lo + 1 + j) (by omega) hlt
      have mb := mx_bd (s := s) (b := b) (C := C) (U := D) (lo := lo) (w := w) l0 j (fun i h => (h25 (lo + 1 + i) (by omega) (by omega)).2.2.2.2.1)
      refine bX4_longestTouching_8 hp (by decide) ⟨zi _, zi _, fun q => absurd q (by omega), fun _ => ⟨by omega, by omega, w0, w1, ?_⟩⟩
      rw [hw5, hw6, hx.1, hx.2.1, hx.2.2.1]
      refine ⟨⟨hx.2.2.2.2.2.2, z1, fun _ => trivial, fun _ => ⟨z2, hx.2.2.2.2.2.1, fun _ => trivial, fun _ => ⟨by omega, zi _ (by omega), zi _ (by omega)⟩⟩⟩, ?_⟩
      have e : (if C w ≤ C (lo + 1 + j - 1) + wd s b (lo + 1 + j - 1) then mx s b C D lo w j else if C (lo + 1 + j) ≤ C (w - 1) + wd s b (w - 1) then mx s b C D lo w j else if D (lo + 1 + j) ≤ mx s b C D lo w j then mx s b C D lo w j else D (lo + 1 + j)) = mx s b C D lo w (j + 1) := by
        show _ = if C (lo + j) + wd s b (lo + j) < C w ∧ C (w - 1) + wd s b (w - 1) < C (lo + 1 + j) ∧ mx s b C D lo w j < D (lo + 1 + j) then D (lo + 1 + j) else mx s b C D lo w j
        rw [show lo + 1 + (j : Int) - 1 = lo + j by omega]
        by_cases c1 : C w ≤ C (lo + j) + wd s b (lo + j)
        · rw [if_pos c1, if_neg (fun q => by omega)]
        · rw [if_neg c1]
          by_cases c2 : C (lo + 1 + j) ≤ C (w - 1) + wd s b (w - 1)
          · rw [if_pos c2, if_neg (fun q => by omega)]
          · rw [if_neg c2]
            by_cases c3 : D (lo + 1 + j) ≤ mx s b C D lo w j
            · rw [if_pos c3, if_neg (fun q => by omega)]
            · rw [if_neg c3, if_pos ⟨by omega, by omega, by omega⟩]
      rw [e, show lo + 1 + (j : Int) + 1 = lo + 1 + ((j + 1 : Nat) : Int) by omega]
      exact ih (j + 1) (by omega)
  have h0 := loop ((if lo + 1 ≤ hi then hi else lo + 1) - (lo + 1)).toNat 0 (by split <;> omega)
  rw [show lo + 1 + ((0 : Nat) : Int) = lo + 1 by omega] at h0
  exact h0
