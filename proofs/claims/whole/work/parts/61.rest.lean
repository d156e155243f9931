/-! text, load, undo, side by side -/
theorem SM.txt {B : Int} {s : Int → Int} {h : Int → Int → Int} {n : Int} {f : Int → Nat} {μ μ' : zMem} (H : SM B s h n f μ) (fd : gD μ' = gD μ) (fr : gR μ' = gR μ) (fl : gL μ' = gL μ) (fi : ∀ q, q ≠ 0 → q ≠ 8 → q ≠ 54 → q ≠ 63 → gI μ' q = gI μ q) (e2 : gI μ' 0 2 = gI μ 0 2) (e1 : gI μ' 54 1 = gI μ 54 1) (tx : TXC μ') : SM B s h n f μ' := by
  obtain ⟨h1, h2, h3, h4, h5, h6, h7, h8⟩ := H
  have cl : lay μ μ' := lay_of fd (fun q hq => ⟨fi q (by omega) (by omega) (by omega) (by omega), by rw [fr]⟩)
  have e55 := fi 55 (by decide) (by decide) (by decide) (by decide)
  have f2 := fi 2 (by decide) (by decide) (by decide) (by decide)
  refine ⟨⟨fun i a b => by rw [e55]; exact h1.1 i a b, h1.2⟩, ⟨h2.1, h2.2.1, by rw [e1]; exact h2.2.2.1, by rw [e2]; exact h2.2.2.2⟩, fun j a b => ?_, ⟨fun j a b => ⟨by rw [fr]; exact (h4.1 j a b).1, (h4.1 j a b).2⟩, h4.2⟩, h5.fr cl (fun q a b => fi q (by omega) (by omega) (by omega) (by omega)) (by rw [fl]) (by rw [fr]), fun r a b => ?_, by rw [f2]; exact h7, tx⟩
  · have g := h3 j a b
    have hs := hst_r h4 (show 0 ≤ j - 1 by omega) (by omega)
    exact ⟨by rw [e55]; exact g.1, g.2.1, g.2.2.1, g.2.2.2.fr cl (fun q x y => fi q (by omega) (by omega) (by omega) (by omega)) (by rw [fl]) (by rw [fr])⟩
  · have g := h6 r a b
    rw [fi 15 (by decide) (by decide) (by decide) (by decide), f2]
    refine ⟨g.1, g.2.1, fun q row x y => ?_⟩
    rw [fi 13 (by decide) (by decide) (by decide) (by decide), fi 14 (by decide) (by decide) (by decide) (by decide)]
    exact g.2.2 q row x y
theorem sim_type {d e : Nat} {B x1 : Int} {μ : zMem} (h1 : zIn x1) (h : SIM B μ) : kX7_type (d + 1) x1 μ (fun r μ1 => kX8_type (e + 1) x1 μ1 (twin B r)) := by
  obtain ⟨s, hh, n, f, H⟩ := h
  have S : SIM B μ := ⟨s, hh, n, f, H⟩
  have tx := H.2.2.2.2.2.2.2
  refine bX7_type (cin h1 (zi _) (zi _) (fun g => pX8_type h1 tx.2.1 tx.2.2.1 (fun _ => ⟨zi _, zi _, rfl, S⟩) (fun q => absurd q g) (fun q => absurd q g)) (fun g => ?_))
  have t1 := tx.2.1
  have t2 := tx.2.2.1
  rw [tx.1]
  refine ⟨zi _, fun lt => ⟨tx.2.1, ?_⟩, fun lt => pX8_type h1 tx.2.1 tx.2.2.1 (fun q => absurd g q) (fun _ _ => ⟨zi _, zi _, rfl, S⟩) (fun _ q => absurd q lt)⟩
  rw [gI_sIs, gI_sIn (show (0 : Nat) ≠ 8 by decide), tx.1]
  have e15 : gI (sI (sI μ 8 (gI μ 54 15) x1) 0 4 (gI μ 54 15 + 1)) 54 15 = gI μ 54 15 := by rw [gI_sIn (by decide), gI_sIn (by decide)]
  refine pX8_type h1 (by rw [e15]; exact tx.2.1) (by rw [e15]; exact tx.2.2.1) (fun q => absurd g q) (fun _ q => by rw [e15] at q; omega) (fun _ _ => ?_)
  rw [e15]
  refine ⟨zi _, zi _, rfl, s, hh, n, f, H.txt rfl rfl rfl (fun q a b c e => by rw [gI_sIn c, gI_sIn e, gI_sIn a, gI_sIn b]) (by rw [gI_sIn (by decide), gI_sIn (by decide), gI_sIo (by decide), gI_sIn (by decide)]) (by rw [gI_sIo (by decide), gI_sIn (by decide), gI_sIn (by decide), gI_sIn (by decide)]) ⟨?_, ?_, ?_, fun x a b => ?_⟩⟩
  · rw [gI_sIn (by decide), gI_sIn (by decide), gI_sIs, gI_sIs]
  · rw [gI_sIs]; omega
  · rw [gI_sIs]; omega
  · rw [gI_sIs] at b
    rw [gI_sIn (show (8 : Nat) ≠ 54 by decide), gI_sIn (show (8 : Nat) ≠ 63 by decide), gI_sIn (show (8 : Nat) ≠ 0 by decide), gI_sIn (show (63 : Nat) ≠ 54 by decide)]
    by_cases ex : x = gI μ 54 15
    · rw [ex, gI_sIs, gI_sIs]
      exact ⟨rfl, g⟩
    · rw [gI_sIo ex, gI_sIo ex, gI_sIn (show (63 : Nat) ≠ 0 by decide), gI_sIn (show (63 : Nat) ≠ 8 by decide)]
      exact tx.2.2.2 x a (by omega)
theorem sim_clearText {d e : Nat} {B : Int} {μ : zMem} (h : SIM B μ) : kX7_clearText d μ (fun r μ1 => kX8_clearText e μ1 (twin B r)) := by
  obtain ⟨s, hh, n, f, H⟩ := h
  have tx := H.2.2.2.2.2.2.2
  have t1 := tx.2.1
  have t2 := tx.2.2.1
  refine bX7_clearText (bX8_clearText ?_)
  rw [gI_sIn (show (54 : Nat) ≠ 0 by decide), tx.1]
  refine ⟨zi _, zi _, rfl, s, hh, n, f, H.txt rfl rfl rfl (fun q a b c e => by rw [gI_sIn c, gI_sIn a]) (by rw [gI_sIn (by decide), gI_sIo (by decide)]) (by rw [gI_sIo (by decide), gI_sIn (by decide)]) ⟨?_, ?_, ?_, fun x a b => ?_⟩⟩
  · rw [gI_sIn (by decide), gI_sIs, gI_sIs]
  · rw [gI_sIs]; omega
  · rw [gI_sIs]; omega
  · rw [gI_sIs] at b
    omega
theorem sim_undo {d e : Nat} {B : Int} {μ : zMem} (h : SIM B μ) : kX7_undo (d + 3) μ (fun r μ1 => kX8_undo (e + 1) μ1 (twin (B + 2) r)) := by
  have S := h.up
  obtain ⟨s, hh, n, f, H⟩ := h
  have H' := H
  obtain ⟨h1, h2, h3, h4, h5, h6, h7, h8⟩ := H'
  refine pX7_undo (s := hh n) h2.1 h2.2.1 h4 h2.2.2.2 (fun e0 => pX8_undo (by rw [h2.2.2.1]; exact h2.1) (by rw [h2.2.2.1]; exact h2.2.1) (fun _ => ⟨zi _, zi _, rfl, S⟩) (fun q => by rw [h2.2.2.1] at q; omega)) (fun hp => ?_)
  have gn := h3 n (by omega) (Int.le_refl _)
  refine ⟨⟨gn.2.1, gn.2.2.2⟩, fun μ1 g1 g2 g3 => ?_⟩
  have q1 : ∀ q, q ≠ 0 → ¬ (1 ≤ q ∧ q ≤ 6) → gI μ1 q = gI μ q := fun q a b => by rw [g1.2.2.1 q (by omega), gI_sIn a]
  have e54 : gI μ1 54 1 = n := by rw [q1 54 (by decide) (by omega)]; exact h2.2.2.1
  refine pX8_undo (by rw [e54]; exact h2.1) (by rw [e54]; exact h2.2.1) (fun q => by rw [e54] at q; omega) (fun _ => ?_)
  rw [e54]
  have e55 : gI μ1 55 = gI μ 55 := q1 55 (by decide) (by omega)
  have e0 : gI μ1 0 = gI (sI μ 0 2 (n - 1)) 0 := g1.2.2.1 0 (by omega)
  -- the memory at the end
  have mI : ∀ q, q ≠ 54 → q ≠ 55 → gI (sI (cI μ1 55 (257 * n) 55 0 257) 54 1 (n - 1)) q = gI μ1 q := fun q a b => by rw [gI_sIn a, gI_cIn b]
  have lay1 : lay μ (sI (cI μ1 55 (257 * n) 55 0 257) 54 1 (n - 1)) := lay_of g1.1 (fun q hq => ⟨by rw [mI q (by omega) (by omega)]; exact q1 q (by omega) (by omega), by
    funext j
    rw [gR_sI, gR_cI]
    exact g1.2.1 q j (by omega)⟩)
  have lay2 : lay μ1 (sI (cI μ1 55 (257 * n) 55 0 257) 54 1 (n - 1)) := lay_of rfl (fun q hq => ⟨mI q (by omega) (by omega), rfl⟩)
  refine ⟨zi _, zi _, rfl, hh n, hh, n - 1, f, ⟨fun i a b => ?_, gn.2.1, gn.2.2.1⟩, ⟨by omega, by omega, gI_sIs, ?_⟩, fun j a b => ?_, ⟨fun j a b => ⟨?_, (h4.1 j a b).2⟩, h4.2⟩, g2.fr lay2 (fun q a b => mI q (by omega) (by omega)) rfl rfl, fun r a b => ?_, ?_, ?_⟩
  · rw [gI_sIn (by decide), gI_cI, if_pos rfl, if_pos ⟨by omega, by omega⟩, e55, show 257 * n + (i - 0) = 257 * n + i by omega]
    exact gn.1 i a b
  · rw [mI 0 (by decide) (by decide), e0, gI_sIs]
  · have g := h3 j a (by omega)
    have hs := hst_r h4 (show 0 ≤ j - 1 by omega) (by omega)
    refine ⟨fun i x y => ?_, g.2.1, g.2.2.1, g.2.2.2.fr lay1 (fun q x y => by rw [mI q (by omega) (by omega)]; exact q1 q (by omega) (by omega)) (by rw [gL_sI, gL_cI]; exact g1.2.2.2 _ (by omega)) ?_⟩
    · rw [gI_sIn (by decide), gI_cI, if_pos rfl, if_neg (by omega), e55]
      exact g.1 i x y
    · rw [gR_sI, gR_cI, g1.2.1 _ _ (by omega)]
      rfl
  · rw [gR_sI, gR_cI, g1.2.1 _ _ (by omega)]
    exact (h4.1 j a b).1
  · have g := h6 r a b
    rw [mI 15 (by decide) (by decide), mI 2 (by decide) (by decide), q1 15 (by decide) (by omega), g3]
    exact ⟨g.1, by omega, fun q => by omega⟩
  · rw [mI 2 (by decide) (by decide), g3]
    omega
  · unfold TXC
    have e8 : gI (sI (cI μ1 55 (257 * n) 55 0 257) 54 1 (n - 1)) 8 = gI μ 8 := by rw [mI 8 (by decide) (by decide)]; exact q1 8 (by decide) (by omega)
    have e63 : gI (sI (cI μ1 55 (257 * n) 55 0 257) 54 1 (n - 1)) 63 = gI μ 63 := by rw [mI 63 (by decide) (by decide)]; exact q1 63 (by decide) (by omega)
    have e15 : gI (sI (cI μ1 55 (257 * n) 55 0 257) 54 1 (n - 1)) 54 15 = gI μ 54 15 := by rw [gI_sIo (by decide), gI_cIn (by decide), q1 54 (by decide) (by omega)]
    have e04 : gI (sI (cI μ1 55 (257 * n) 55 0 257) 54 1 (n - 1)) 0 4 = gI μ 0 4 := by rw [mI 0 (by decide) (by decide), e0, gI_sIo (by decide)]
    rw [e8, e63, e15, e04]
    exact h8
