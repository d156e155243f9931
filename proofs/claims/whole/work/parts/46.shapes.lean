/-! free cells when shapes come, go and move -/
theorem bel_congr {s s' : Int → Int} {k k' x y : Int} (h : ∀ j, 0 ≤ j → j < 5 → s (1 + 5 * k + j) = s' (1 + 5 * k' + j)) : bel s k x y = bel s' k' x y := by
  unfold bel
  rw [h 0 (by omega) (by omega), h 1 (by omega) (by omega), h 2 (by omega) (by omega), h 3 (by omega) (by omega), h 4 (by omega) (by omega)]
theorem cnt_c2 {s s' : Int → Int} (x y : Int) : ∀ n : Nat, (∀ k j, 0 ≤ k → k < (n : Int) → 0 ≤ j → j < 5 → s (1 + 5 * k + j) = s' (1 + 5 * k + j)) → cnt s x y n = cnt s' x y n
  | 0, _ => rfl
  | n + 1, h => by
    unfold cnt
    rw [cnt_c2 x y n (fun k j a b c d => h k j a (by omega) c d), bel_congr (fun j a b => h n j (by omega) (by omega) a b)]
theorem freeB_c {s s' : Int → Int} (hw : wf s) (h : ∀ i, 0 ≤ i → i < 31 → s i = s' i) (x y : Int) : freeB s x y = freeB s' x y := by
  have := hw.1
  unfold freeB
  rw [← h 0 (by omega) (by omega), cnt_c2 x y (s 0).toNat (fun k j a b c d => h _ (by omega) (by omega))]
theorem bandB_c {s s' : Int → Int} (h : ∀ x y, freeB s x y = freeB s' x y) (row : Int) (x : Nat) : ∀ r : Nat, bandB s row r x = bandB s' row r x
  | 0 => rfl
  | r + 1 => by
    unfold bandB
    rw [bandB_c h row x r, h]
theorem SL_c {s s' : Int → Int} (h : ∀ x y, freeB s x y = freeB s' x y) (row rows : Int) : SL s row rows = SL s' row rows ∧ SF s row rows = SF s' row rows := by
  unfold SL SF
  rw [spr_congr (fun x _ => bandB_c h row x rows.toNat) 48 (by omega)]
  exact ⟨rfl, rfl⟩
theorem par (c : Int) (b : Bool) : decide ((c + (if b = true then 1 else 0)) % 2 = 1) = (decide (c % 2 = 1) ^^ b) := by
  cases b
  · simp
  · have : ((c + 1) % 2 = 1) ↔ ¬ (c % 2 = 1) := by omega
    simp [this]
theorem cnt_del {s : Int → Int} {k : Int} (x y : Int) : ∀ n : Nat, ∀ s' : Int → Int, 0 ≤ k → k < (n : Int) + 1 → (∀ i j, 0 ≤ i → i < (n : Int) → 0 ≤ j → j < 5 → s' (1 + 5 * i + j) = s (1 + 5 * (if i < k then i else i + 1) + j)) → cnt s' x y n + (if bel s k x y = true then 1 else 0) = cnt s x y (n + 1)
  | 0, s', k0, k1, h => by
    have : k = ((0 : Nat) : Int) := by omega
    rw [this]
    rfl
  | n + 1, s', k0, k1, h => by
    by_cases e : k = ((n + 1 : Nat) : Int)
    · have e2 : cnt s' x y (n + 1) = cnt s x y (n + 1) := cnt_c2 x y (n + 1) (fun i j a b c d => by
        have := h i j a b c d
        rw [if_pos (by omega)] at this
        exact this)
      rw [e2, e]
      rfl
    · have ih := cnt_del (s := s) (k := k) x y n s' k0 (by omega) (fun i j a b c d => h i j a (by omega) c d)
      have hb : bel s' (n : Int) x y = bel s ((n + 1 : Nat) : Int) x y := bel_congr (fun j a b => by
        have := h n j (by omega) (by omega) a b
        rw [if_neg (by omega)] at this
        rw [this, show (n : Int) + 1 = ((n + 1 : Nat) : Int) by omega])
      show cnt s' x y n + (if bel s' (n : Int) x y = true then 1 else 0) + (if bel s k x y = true then 1 else 0) = cnt s x y (n + 1) + (if bel s ((n + 1 : Nat) : Int) x y = true then 1 else 0)
      rw [hb]
      omega
theorem cnt_chg {s s' : Int → Int} {k : Int} (x y : Int) : ∀ n : Nat, 0 ≤ k → k < (n : Int) → (∀ i j, 0 ≤ i → i < (n : Int) → i ≠ k → 0 ≤ j → j < 5 → s' (1 + 5 * i + j) = s (1 + 5 * i + j)) → cnt s' x y n + (if bel s k x y = true then 1 else 0) = cnt s x y n + (if bel s' k x y = true then 1 else 0)
  | 0, k0, k1, h => by omega
  | n + 1, k0, k1, h => by
    by_cases e : k = (n : Int)
    · have e2 : cnt s' x y n = cnt s x y n := cnt_c2 x y n (fun i j a b c d => h i j a (by omega) (by omega) c d)
      unfold cnt
      rw [e2, e]
      omega
    · have ih := cnt_chg (s := s) (s' := s') (k := k) x y n k0 (by omega) (fun i j a b g c d => h i j a (by omega) g c d)
      have hb : bel s' (n : Int) x y = bel s (n : Int) x y := bel_congr (fun j a b => h n j (by omega) (by omega) (by omega) a b)
      unfold cnt
      rw [hb]
      omega
theorem addSh_at {s : Int → Int} {kd x1 y1 x2 y2 : Int} {i : Int} (h : i ≠ 0) (h' : ¬ (1 + 5 * s 0 ≤ i ∧ i < 6 + 5 * s 0)) : addSh s kd x1 y1 x2 y2 i = s i := by
  unfold addSh
  rw [fu_o h, fu_o (by omega), fu_o (by omega), fu_o (by omega), fu_o (by omega), fu_o (by omega)]
theorem addSh_n {s : Int → Int} {kd x1 y1 x2 y2 : Int} : addSh s kd x1 y1 x2 y2 0 = s 0 + 1 := fu_s
theorem addSh_j {s : Int → Int} {kd x1 y1 x2 y2 : Int} (h : 0 ≤ s 0) : addSh s kd x1 y1 x2 y2 (1 + 5 * s 0 + 0) = kd ∧ addSh s kd x1 y1 x2 y2 (1 + 5 * s 0 + 1) = x1 ∧ addSh s kd x1 y1 x2 y2 (1 + 5 * s 0 + 2) = y1 ∧ addSh s kd x1 y1 x2 y2 (1 + 5 * s 0 + 3) = x2 ∧ addSh s kd x1 y1 x2 y2 (1 + 5 * s 0 + 4) = y2 := by
  unfold addSh
  refine ⟨?_, ?_, ?_, ?_, ?_⟩
  · rw [fu_o (by omega), fu_o (by omega), fu_o (by omega), fu_o (by omega), fu_o (by omega), show 1 + 5 * s 0 + 0 = 1 + 5 * s 0 by omega, fu_s]
  · rw [fu_o (by omega), fu_o (by omega), fu_o (by omega), fu_o (by omega), fu_s]
  · rw [fu_o (by omega), fu_o (by omega), fu_o (by omega), fu_s]
  · rw [fu_o (by omega), fu_o (by omega), fu_s]
  · rw [fu_o (by omega), fu_s]
theorem free_add {s : Int → Int} {kd x1 y1 x2 y2 : Int} (hw : wf s) (x y : Int) : freeB (addSh s kd x1 y1 x2 y2) x y = (freeB s x y ^^ bel (addSh s kd x1 y1 x2 y2) (s 0) x y) := by
  have h0 := hw.1
  unfold freeB
  rw [addSh_n, show (s 0 + 1).toNat = (s 0).toNat + 1 by omega]
  have e : cnt (addSh s kd x1 y1 x2 y2) x y (s 0).toNat = cnt s x y (s 0).toNat := cnt_c2 x y _ (fun k j a b c d => addSh_at (by omega) (by omega))
  show decide ((cnt (addSh s kd x1 y1 x2 y2) x y (s 0).toNat + (if bel (addSh s kd x1 y1 x2 y2) ((s 0).toNat : Int) x y = true then 1 else 0)) % 2 = 1) = _
  rw [e, par, show (((s 0).toNat : Nat) : Int) = s 0 by omega]
theorem free_rem {s : Int → Int} {k : Int} (hw : wf s) (k0 : 0 ≤ k) (k1 : k < s 0) (x y : Int) : freeB (remSh s k) x y = (freeB s x y ^^ bel s k x y) := by
  have h0 := hw.1
  have e0 : remSh s k 0 = s 0 - 1 := by
    unfold remSh
    rw [if_pos rfl]
  have hc := cnt_del (s := s) (k := k) x y (s 0 - 1).toNat (remSh s k) k0 (by omega) (fun i j a b c d => by
    unfold remSh
    rw [if_neg (by omega)]
    by_cases g : i < k
    · rw [if_neg (by omega), if_pos g]
    · rw [if_pos (by omega), if_neg g, show 1 + 5 * i + j + 5 = 1 + 5 * (i + 1) + j by omega])
  rw [show (s 0 - 1).toNat + 1 = (s 0).toNat by omega] at hc
  unfold freeB
  rw [e0]
  have : cnt (remSh s k) x y (s 0 - 1).toNat % 2 = 1 ↔ ((cnt s x y (s 0).toNat + (if bel s k x y = true then 1 else 0)) % 2 = 1) := by
    rw [← hc]
    split <;> omega
  rw [← par]
  exact decide_eq_decide.mpr this
theorem movSh_at {s : Int → Int} {k dx dy i : Int} (h : ¬ (1 + 5 * k + 1 ≤ i ∧ i ≤ 1 + 5 * k + 4)) : movSh s k dx dy i = s i := by
  unfold movSh
  rw [fu_o (by omega), fu_o (by omega), fu_o (by omega), fu_o (by omega)]
theorem free_mov {s : Int → Int} {k dx dy : Int} (hw : wf s) (k0 : 0 ≤ k) (k1 : k < s 0) (x y : Int) : freeB (movSh s k dx dy) x y = ((freeB s x y ^^ bel s k x y) ^^ bel (movSh s k dx dy) k x y) := by
  have h0 := hw.1
  have e0 : movSh s k dx dy 0 = s 0 := movSh_at (by omega)
  have hc := cnt_chg (s := s) (s' := movSh s k dx dy) (k := k) x y (s 0).toNat k0 (by omega) (fun i j a b g c d => movSh_at (by omega))
  unfold freeB
  rw [e0, ← par, ← par]
  refine decide_eq_decide.mpr ?_
  generalize (if bel s k x y = true then (1 : Int) else 0) = A at hc ⊢
  generalize (if bel (movSh s k dx dy) k x y = true then (1 : Int) else 0) = C at hc ⊢
  omega
/-! the class's canvas changes -/
def CV (s : Int → Int) (μ : zMem) : Prop := gI μ 2 0 = s 0 ∧ (∀ i, 0 ≤ i → i < 5 * s 0 → gI μ 3 i = s (1 + i)) ∧ FRE μ 4 (freeB s)
theorem FRE.c {μ : zMem} {p : Nat} {f g : Int → Int → Bool} (h : FRE μ p f) (e : ∀ x y, f x y = g x y) : FRE μ p g := fun y hy => mb_congr (h y hy) (fun x _ => e x y)
theorem pX1_append {d : Nat} {Q : zMem → Prop} {μ : zMem} {s : Int → Int} {kd x1 y1 x2 y2 : Int} (hw : wf s) (hc : CV s μ) (h6 : s 0 < 6) (hk : 0 ≤ kd ∧ kd ≤ 3) (hb : box x1 y1 x2 y2) (hQ : ∀ μ', cvs μ μ' → CV (addSh s kd x1 y1 x2 y2) μ' → gI μ' 2 1 = gI μ 2 1 + 1 → Q μ') : kX1_append (d + 3) kd x1 y1 x2 y2 μ Q := by
  have h0 := hw.1
  obtain ⟨b1, b2', b3, b4⟩ := hb
  refine bX1_append ?_
  simp only [gI_sIn (show (2 : Nat) ≠ 3 by decide)]
  rw [hc.1]
  refine ⟨by omega, by omega, by omega, by omega, by omega, by omega, by omega, by omega, by omega, by omega, ?_⟩
  have aj := addSh_j (s := s) (kd := kd) (x1 := x1) (y1 := y1) (x2 := x2) (y2 := y2) h0.1
  generalize hν : sI (sI (sI (sI (sI (sI μ 3 (s 0 * 5 + 0) kd) 3 (s 0 * 5 + 1) x1) 3 (s 0 * 5 + 2) y1) 3 (s 0 * 5 + 3) x2) 3 (s 0 * 5 + 4) y2) 2 0 (s 0 + 1) = ν
  have n1 : cvs μ ν := by
    rw [← hν]
    exact (((((cvs.rf.w (by omega)).w (by omega)).w (by omega)).w (by omega)).w (by omega)).w (by omega)
  have n3 : ∀ j, 0 ≤ j → j < 5 → gI ν 3 (s 0 * 5 + j) = addSh s kd x1 y1 x2 y2 (1 + 5 * s 0 + j) := by
    intro j a c
    rw [← hν, gI_sIn (by decide)]
    by_cases c4 : j = 4
    · rw [c4, gI_sIs, aj.2.2.2.2]
    by_cases c3 : j = 3
    · rw [c3, gI_sIo (by omega), gI_sIs, aj.2.2.2.1]
    by_cases c2 : j = 2
    · rw [c2, gI_sIo (by omega), gI_sIo (by omega), gI_sIs, aj.2.2.1]
    by_cases c1 : j = 1
    · rw [c1, gI_sIo (by omega), gI_sIo (by omega), gI_sIo (by omega), gI_sIs, aj.2.1]
    have c0' : j = 0 := by omega
    rw [c0', gI_sIo (by omega), gI_sIo (by omega), gI_sIo (by omega), gI_sIo (by omega), gI_sIs, aj.1]
  have n3' : ∀ i, 0 ≤ i → i < 5 * s 0 → gI ν 3 i = s (1 + i) := by
    intro i a c
    rw [← hν, gI_sIn (by decide), gI_sIo (by omega), gI_sIo (by omega), gI_sIo (by omega), gI_sIo (by omega), gI_sIo (by omega)]
    exact hc.2.1 i a c
  have nL : gL ν = gL μ := by rw [← hν]; rfl
  have nc : gI ν 2 1 = gI μ 2 1 := by
    rw [← hν, gI_sIo (by decide), gI_sIn (by decide), gI_sIn (by decide), gI_sIn (by decide), gI_sIn (by decide), gI_sIn (by decide)]
  have n0 : gI ν 2 0 = s 0 + 1 := by
    rw [← hν, gI_sIs]
  refine pX1_toggle (s := addSh s kd x1 y1 x2 y2) (k := s 0) (f := freeB s) (by omega) (by omega) n3 (by
    unfold shp
    rw [aj.1, aj.2.1, aj.2.2.1, aj.2.2.2.1, aj.2.2.2.2]
    omega) (fun y hy => by rw [nL]; exact hc.2.2 y hy) ?_
  intro μ' g1 g2 g3 g4 g5
  refine hQ μ' (n1.tr g1) ⟨by rw [g3, n0, addSh_n], fun i a c => ?_, g5.c (fun x y => (free_add hw x y).symm)⟩ (by rw [g4, nc])
  rw [addSh_n] at c
  rw [g2]
  by_cases e : i < 5 * s 0
  · rw [n3' i a e, addSh_at (by omega) (by omega)]
  · have := n3 (i - 5 * s 0) (by omega) (by omega)
    rw [show s 0 * 5 + (i - 5 * s 0) = i by omega, show 1 + 5 * s 0 + (i - 5 * s 0) = 1 + i by omega] at this
    exact this
theorem CV.sh {s : Int → Int} {μ : zMem} {k : Int} (hc : CV s μ) (k0 : 0 ≤ k) (k1 : k < s 0) : shIs μ (k * 5) s k := fun j a b => by
  rw [hc.2.1 _ (by omega) (by omega)]
  congr 1
  omega
theorem pX1_shift {d : Nat} {Q : zMem → Prop} {μ : zMem} {s : Int → Int} {k dx dy : Int} (hw : wf s) (hc : CV s μ) (k0 : 0 ≤ k) (k1 : k < s 0) (ok : okMv s k dx dy) (hQ : ∀ μ', cvs μ μ' → CV (movSh s k dx dy) μ' → gI μ' 2 1 = gI μ 2 1 + 2 → Q μ') : kX1_shift (d + 3) k dx dy μ Q := by
  have h0 := hw.1
  refine bX1_shift ?_
  refine pX1_toggle (s := s) (k := k) (f := freeB s) (by omega) (by omega) (hc.sh k0 k1) (hw.2.1 k k0 k1) hc.2.2 ?_
  intro ξ g1 g2 g3 g4 g5
  refine ⟨by omega, by omega, by omega, by omega, by omega, by omega, by omega, by omega, ?_⟩
  have hm := hc.sh k0 k1
  have hw' := wf_mov hw k0 k1 ok
  rw [gI_sIo (by omega), gI_sIo (by omega), gI_sIo (by omega), gI_sIo (by omega), gI_sIo (by omega), gI_sIo (by omega), g2, hm 1 (by omega) (by omega), hm 2 (by omega) (by omega), hm 3 (by omega) (by omega), hm 4 (by omega) (by omega)]
  generalize hν : sI (sI (sI (sI ξ 3 (k * 5 + 1) (s (1 + 5 * k + 1) + dx)) 3 (k * 5 + 2) (s (1 + 5 * k + 2) + dy)) 3 (k * 5 + 3) (s (1 + 5 * k + 3) + dx)) 3 (k * 5 + 4) (s (1 + 5 * k + 4) + dy) = ν
  have n1 : cvs μ ν := by
    rw [← hν]
    exact (((g1.w (by omega)).w (by omega)).w (by omega)).w (by omega)
  have n3 : ∀ i, 0 ≤ i → i < 5 * s 0 → gI ν 3 i = movSh s k dx dy (1 + i) := by
    intro i a c
    rw [← hν]
    unfold movSh
    by_cases c4 : i = k * 5 + 4
    · rw [c4, gI_sIs, show 1 + (k * 5 + 4) = 1 + 5 * k + 4 by omega, fu_s]
    by_cases c3 : i = k * 5 + 3
    · rw [c3, gI_sIo (by omega), gI_sIs, show 1 + (k * 5 + 3) = 1 + 5 * k + 3 by omega, fu_o (by omega), fu_s]
    by_cases c2 : i = k * 5 + 2
    · rw [c2, gI_sIo (by omega), gI_sIo (by omega), gI_sIs, show 1 + (k * 5 + 2) = 1 + 5 * k + 2 by omega, fu_o (by omega), fu_o (by omega), fu_s]
    by_cases c1 : i = k * 5 + 1
    · rw [c1, gI_sIo (by omega), gI_sIo (by omega), gI_sIo (by omega), gI_sIs, show 1 + (k * 5 + 1) = 1 + 5 * k + 1 by omega, fu_o (by omega), fu_o (by omega), fu_o (by omega), fu_s]
    rw [gI_sIo c4, gI_sIo c3, gI_sIo c2, gI_sIo c1, fu_o (by omega), fu_o (by omega), fu_o (by omega), fu_o (by omega), g2]
    exact hc.2.1 i a c
  have e0 : movSh s k dx dy 0 = s 0 := movSh_at (by omega)
  have m2 : gI ν 2 = gI ξ 2 := by
    rw [← hν, gI_sIn (by decide), gI_sIn (by decide), gI_sIn (by decide), gI_sIn (by decide)]
  refine pX1_toggle (s := movSh s k dx dy) (k := k) (f := fun x y => freeB s x y ^^ bel s k x y) (by omega) (by omega) (fun j a b => by
    rw [n3 _ (by omega) (by omega)]
    congr 1
    omega) (hw'.2.1 k k0 (by rw [e0]; exact k1)) (fun y hy => by rw [show gL ν = gL ξ by rw [← hν]; rfl]; exact g5 y hy) ?_
  intro μ' i1 i2 i3 i4 i5
  refine hQ μ' (n1.tr i1) ⟨by rw [i3, m2, g3, e0]; exact hc.1, fun i a c => by rw [i2]; exact n3 i a (by rw [e0] at c; exact c), i5.c (fun x y => (free_mov hw k0 k1 x y).symm)⟩ (by rw [i4, m2, g4]; omega)
theorem pX1_drop {d : Nat} {Q : zMem → Prop} {μ : zMem} {s : Int → Int} {k : Int} (hw : wf s) (hc : CV s μ) (k0 : 0 ≤ k) (k1 : k < s 0) (hQ : ∀ μ', cvs μ μ' → CV (remSh s k) μ' → gI μ' 2 1 = gI μ 2 1 + 1 → Q μ') : kX1_drop (d + 3) k μ Q := by
  have h0 := hw.1
  refine bX1_drop ?_
  refine pX1_toggle (s := s) (k := k) (f := freeB s) (by omega) (by omega) (hc.sh k0 k1) (hw.2.1 k k0 k1) hc.2.2 ?_
  intro ξ g1 g2 g3 g4 g5
  rw [gI_sIs, g3, hc.1]
  refine ⟨by omega, by omega, by omega, by omega, by omega, ?_⟩
  have e0 : remSh s k 0 = s 0 - 1 := by
    unfold remSh
    rw [if_pos rfl]
  refine hQ _ ⟨g1.1, g1.2.1, fun q a b => by rw [gI_cIn b, gI_sIn a]; exact g1.2.2.1 q a b, g1.2.2.2⟩ ⟨by rw [gI_cIn (by decide), gI_sIs, e0], fun i a c => ?_, fun y hy => ?_⟩ (by rw [gI_cIn (by decide), gI_sIo (by decide), g4])
  · rw [e0] at c
    rw [gI_cI, if_pos rfl]
    unfold remSh
    rw [if_neg (show ¬ 1 + i = 0 by omega)]
    by_cases g : k * 5 ≤ i ∧ i < k * 5 + ((s 0 - 1) * 5 - k * 5)
    · rw [if_pos g, if_pos (by omega), gI_sIn (by decide), g2, hc.2.1 _ (by omega) (by omega)]
      congr 1
      omega
    · rw [if_neg g, if_neg (by omega), gI_sIn (by decide), g2, hc.2.1 _ a (by omega)]
  · exact g5.c (fun x y => (free_rem hw k0 k1 x y).symm) y hy
