/-! calls that change words and settings, side by side -/
theorem LYT.c {q : Nat} {s s' : Int → Int} {μ : zMem} (h : LYT q s μ) (hp : wfP s) (h1 : s 82 = 1) (e : ∀ i, 82 ≤ i → i < 257 → s' i = s i) : LYT q s' μ := by
  obtain ⟨a1, a2, a3, a4, a5, a6, a7, a8, a9, a10, a11, a12, a13⟩ := h
  have hb := hp.2 h1
  have e84 := e 84 (by omega) (by omega)
  have e256 := e 256 (by omega) (by omega)
  refine ⟨a1, a2, a3, a4, a5, a6, a7, by rw [e84]; exact a8, by rw [e256]; exact a9, fun i x y => by rw [e _ (by omega) (by omega)]; exact a10 i x y, fun i x y => ?_, fun i x y => ?_, a13⟩
  · rw [e84] at y
    rw [e _ (by omega) (by omega)]
    exact a11 i x y
  · rw [e256] at y
    rw [e _ (by omega) (by omega)]
    exact a12 i x y
theorem PRS.c {p : Nat} {s s' : Int → Int} {μ : zMem} (h : PRS p s μ) (hp : wfP s) (e : ∀ i, 82 ≤ i → i < 257 → s' i = s i) : PRS p s' μ := by
  rcases h with ⟨a, c⟩ | ⟨a, q, c, g⟩
  · exact Or.inl ⟨by rw [e 82 (by omega) (by omega)]; exact a, c⟩
  · exact Or.inr ⟨by rw [e 82 (by omega) (by omega)]; exact a, q, c, g.c hp a e⟩
theorem wfP_c {s s' : Int → Int} (hp : wfP s) (e : ∀ i, 82 ≤ i → i < 257 → s' i = s i) : wfP s' := by
  unfold wfP at hp ⊢
  rw [e 82 (by omega) (by omega), e 84 (by omega) (by omega), e 256 (by omega) (by omega)]
  refine ⟨hp.1, fun h => ?_⟩
  obtain ⟨p1, p2, p3, p4, p5⟩ := hp.2 h
  exact ⟨p1, p2, fun i a b => by rw [e _ (by omega) (by omega)]; exact p3 i a b, fun i a b => by rw [e _ (by omega) (by omega)]; exact p4 i a b, fun i a b => by rw [e _ (by omega) (by omega)]; exact p5 i a b⟩
theorem XS_new {s s' : Int → Int} {μr μ1 : zMem} (hx : XS 1 s μr) (hw : wf s) (hp : wfP s) (e30 : ∀ i, 0 ≤ i → i < 31 → s' i = s i) (e82 : ∀ i, 82 ≤ i → i < 257 → s' i = s i) (fd : gD μ1 = gD μr) (fr : gR μ1 = gR μr) (fl : gL μ1 = gL μr) (fi : ∀ q, q ≠ 1 → q ≠ 5 → q ≠ 6 → gI μ1 q = gI μr q) (w1 : gI μ1 1 1 = s' 31) (w2 : ∀ i, 0 ≤ i → i < 3 * s' 31 → gI μ1 5 i = s' (32 + i)) (w3 : ∀ i, 0 ≤ i → i < 8 → gI μ1 6 i = s' (74 + i)) : XS 1 s' μ1 := by
  obtain ⟨a1, a2, a3, a4, a5, a6, a7⟩ := hx
  have h0 := hw.1
  have e0 := e30 0 (by omega) (by omega)
  refine ⟨by rw [fi 2 (by decide) (by decide) (by decide), e0]; exact a1, fun i x y => ?_, ?_, w1, w2, w3, ?_⟩
  · rw [e0] at y
    rw [fi 3 (by decide) (by decide) (by decide), e30 _ (by omega) (by omega)]
    exact a2 i x y
  · intro y hy
    rw [fl]
    exact mb_congr (a3 y hy) (fun x _ => freeB_c hw (fun i p q => (e30 i p q).symm) x y)
  · exact (a7.lay (lay_of fd (fun q hq => ⟨fi q (by omega) (by omega) (by omega), by rw [fr]⟩)) (by rw [fr])).c hp e82
/-- a change of words and settings, in the class -/
theorem cop.set {B : Int} {f : Int → Nat} {n : Int} {s s' : Int → Int} {h : Int → Int → Int} {μ μr μ1 : zMem} (H : SM B s h n f μ) (c : cop f n s s μ μr) (e30 : ∀ i, 0 ≤ i → i < 31 → s' i = s i) (e82 : ∀ i, 82 ≤ i → i < 257 → s' i = s i) (fd : gD μ1 = gD μr) (fr : gR μ1 = gR μr) (fl : gL μ1 = gL μr) (fi : ∀ q, q ≠ 1 → q ≠ 5 → q ≠ 6 → gI μ1 q = gI μr q) (w1 : gI μ1 1 1 = s' 31) (w2 : ∀ i, 0 ≤ i → i < 3 * s' 31 → gI μ1 5 i = s' (32 + i)) (w3 : ∀ i, 0 ≤ i → i < 8 → gI μ1 6 i = s' (74 + i)) : cop f n s s' μ μ1 := by
  have hw := H.1.2.1
  have c' := c
  obtain ⟨f', n', c1, c2, c3, c4, c5, c6, c7, c8, c9, c10, c11⟩ := c'
  have e2 := fi 2 (by decide) (by decide) (by decide)
  refine c.mod H.2.1.1 H.2.1.2.1 fd (fun q _ => by rw [fr]) (fun q a => fi q (by omega) (by omega) (by omega)) (fun q _ => by rw [fl]) (XS_new c6 hw H.1.2.2 e30 e82 fd fr fl fi w1 w2 w3) (BND_c (fun x y => freeB_c hw (fun i p q => (e30 i p q).symm) x y) (fun r x y => ?_)) (by rw [e2]; omega)
  rw [fi 15 (by decide) (by decide) (by decide), e2]
  have := c7 r x y
  refine ⟨this.1, this.2.1, fun q row z w => ?_⟩
  rw [fi 13 (by decide) (by decide) (by decide), fi 14 (by decide) (by decide) (by decide)]
  exact this.2.2 q row z w
theorem cop.pre {B : Int} {f : Int → Nat} {n : Int} {s s' : Int → Int} {h : Int → Int → Int} {μ μ1 : zMem} (H : SM B s h n f μ) (c : cop f n s s' μ μ1) : mpre μ1 s := by
  obtain ⟨f', n', c1, c2, c3, c4, c5, c6, c7, c8, c9, c10, c11⟩ := c
  have p := H.pre
  refine ⟨fun i a b => by rw [c11 55 (by omega) (by omega)]; exact p.1 i a b, p.2.1, by rw [c11 54 (by omega) (by omega)]; exact p.2.2.1, by rw [c11 54 (by omega) (by omega)]; exact p.2.2.2⟩
theorem SIM.up {B : Int} {μ : zMem} (h : SIM B μ) : SIM (B + 2) μ := by
  obtain ⟨s, hh, n, f, H⟩ := h
  exact ⟨s, hh, n, f, H.up (by omega)⟩
theorem wf_words {s s' : Int → Int} (hw : wf s) (e30 : ∀ i, 0 ≤ i → i < 31 → s' i = s i) (h31 : 0 ≤ s' 31 ∧ s' 31 ≤ 14) (hk : ∀ k : Int, 0 ≤ k → k < s' 31 → 1 ≤ s' (32 + 3 * k + 0) ∧ s' (32 + 3 * k + 0) ≤ 12 ∧ 1 ≤ s' (32 + 3 * k + 1) ∧ s' (32 + 3 * k + 1) ≤ 3 ∧ 0 ≤ s' (32 + 3 * k + 2) ∧ s' (32 + 3 * k + 2) ≤ 1)
    (e74 : (0 ≤ s' 74 ∧ s' 74 ≤ 4) ∧ (1 ≤ s' 75 ∧ s' 75 ≤ 20) ∧ (1 ≤ s' 76 ∧ s' 76 ≤ 20) ∧ (1 ≤ s' 77 ∧ s' 77 ≤ 20) ∧ (0 ≤ s' 78 ∧ s' 78 ≤ 35) ∧ (0 ≤ s' 79 ∧ s' 79 ≤ 5) ∧ (0 ≤ s' 80 ∧ s' 80 ≤ 2) ∧ (1 ≤ s' 81 ∧ s' 81 ≤ 9)) : wf s' := by
  have h0 := hw.1
  have e0 := e30 0 (by omega) (by omega)
  refine ⟨by rw [e0]; exact h0, fun k a c => ?_, h31, hk, e74⟩
  rw [e0] at c
  rw [e30 _ (by omega) (by omega), e30 _ (by omega) (by omega), e30 _ (by omega) (by omega), e30 _ (by omega) (by omega), e30 _ (by omega) (by omega)]
  exact hw.2.1 k a c
theorem putW_at {s : Int → Int} {k l w m i : Int} (h : ¬ (32 + 3 * k ≤ i ∧ i ≤ 32 + 3 * k + 2)) : putW s k l w m i = s i := by
  unfold putW
  rw [fu_o (by omega), fu_o (by omega), fu_o (by omega)]
theorem putW_j {s : Int → Int} {k l w m : Int} : putW s k l w m (32 + 3 * k + 0) = l ∧ putW s k l w m (32 + 3 * k + 1) = w ∧ putW s k l w m (32 + 3 * k + 2) = m := by
  unfold putW
  refine ⟨?_, ?_, fu_s⟩
  · rw [fu_o (by omega), fu_o (by omega), show 32 + 3 * k + 0 = 32 + 3 * k by omega, fu_s]
  · rw [fu_o (by omega), fu_s]
theorem sim_setSizes {d e : Nat} {B x1 x2 x3 x4 : Int} {μ : zMem} (h1 : zIn x1) (h2 : zIn x2) (h3 : zIn x3) (h4 : zIn x4) (h : SIM B μ) : kX7_setSizes (d + 4) x1 x2 x3 x4 μ (fun r μ1 => kX8_setSizes (e + 2) x1 x2 x3 x4 μ1 (twin (B + 2) r)) := by
  have S := h.up
  obtain ⟨s, hh, n, f, H⟩ := h
  have hw := H.1.2.1
  have bad : ¬ ((0 ≤ x1 ∧ x1 ≤ 4) ∧ (1 ≤ x2 ∧ x2 ≤ 20) ∧ (1 ≤ x3 ∧ x3 ≤ 20) ∧ (1 ≤ x4 ∧ x4 ≤ 20)) → kX8_setSizes (e + 2) x1 x2 x3 x4 μ (twin (B + 2) (-3)) := fun g => pX8_setSizes H.pre h1 h2 h3 h4 (fun _ => ⟨zi _, zi _, rfl, S⟩) (fun q => absurd q g)
  refine bX7_setSizes (cin h1 (zi _) (zi _) (fun g => bad (fun q => g q.1)) (fun g1 => ?_))
  refine cin h2 (zi _) (zi _) (fun g => bad (fun q => g q.2.1)) (fun g2 => ?_)
  refine cin h3 (zi _) (zi _) (fun g => bad (fun q => g q.2.2.1)) (fun g3 => ?_)
  refine cin h4 (zi _) (zi _) (fun g => bad (fun q => g q.2.2.2)) (fun g4 => ?_)
  refine H.rem ?_
  intro μr c r
  have c6 : XS 1 s μr := r.xs H.2.2.2.2.1
  have w6 := c6.2.2.2.2.2.1
  rw [show gI μr 6 0 = s 74 from w6 0 (by omega) (by omega)]
  have s' : ∀ i, i ≠ 74 → i ≠ 75 → i ≠ 76 → i ≠ 77 → fu (fu (fu (fu s 74 x1) 75 x2) 76 x3) 77 x4 i = s i := fun i a b c e => by rw [fu_o e, fu_o c, fu_o b, fu_o a]
  have e74 : fu (fu (fu (fu s 74 x1) 75 x2) 76 x3) 77 x4 74 = x1 := by rw [fu_o (by decide), fu_o (by decide), fu_o (by decide), fu_s]
  have e75 : fu (fu (fu (fu s 74 x1) 75 x2) 76 x3) 77 x4 75 = x2 := by rw [fu_o (by decide), fu_o (by decide), fu_s]
  have e76 : fu (fu (fu (fu s 74 x1) 75 x2) 76 x3) 77 x4 76 = x3 := by rw [fu_o (by decide), fu_s]
  have cc : cop f n s (fu (fu (fu (fu s 74 x1) 75 x2) 76 x3) 77 x4) μ (sI (sI (sI (sI μr 6 0 x1) 6 1 x2) 6 2 x3) 6 3 x4) := by
    have hn := hw.2.2.1
    refine cop.set H c (fun i a b => s' i (by omega) (by omega) (by omega) (by omega)) (fun i a b => s' i (by omega) (by omega) (by omega) (by omega)) rfl rfl rfl (fun q a b c => by rw [gI_sIn c, gI_sIn c, gI_sIn c, gI_sIn c]) ?_ (fun i a b => ?_) (fun i a b => ?_)
    · rw [gI_sIn (by decide), gI_sIn (by decide), gI_sIn (by decide), gI_sIn (by decide), s' 31 (by decide) (by decide) (by decide) (by decide)]
      exact c6.2.2.2.1
    · rw [s' 31 (by decide) (by decide) (by decide) (by decide)] at b
      rw [gI_sIn (by decide), gI_sIn (by decide), gI_sIn (by decide), gI_sIn (by decide), s' _ (by omega) (by omega) (by omega) (by omega)]
      exact c6.2.2.2.2.1 i a b
    · by_cases i3 : i = 3
      · rw [i3, gI_sIs]; exact fu_s.symm
      by_cases i2 : i = 2
      · rw [i2, gI_sIo (by decide), gI_sIs]; exact e76.symm
      by_cases i1 : i = 1
      · rw [i1, gI_sIo (by decide), gI_sIo (by decide), gI_sIs]; exact e75.symm
      by_cases i0 : i = 0
      · rw [i0, gI_sIo (by decide), gI_sIo (by decide), gI_sIo (by decide), gI_sIs]; exact e74.symm
      rw [gI_sIo i3, gI_sIo i2, gI_sIo i1, gI_sIo i0, s' _ (by omega) (by omega) (by omega) (by omega)]
      exact w6 i a b
  refine pX8_setSizes (cc.pre H) h1 h2 h3 h4 (fun q => absurd ⟨g1, g2, g3, g4⟩ q) (fun _ μ' m => ?_)
  have w5 := hw.2.2.2.2.1
  refine ⟨zi _, zi _, rfl, H.op cc m (wf_words hw (fun i a b => s' i (by omega) (by omega) (by omega) (by omega)) ?_ (fun k a b => ?_) ?_) (wfP_c H.1.2.2 (fun i a b => s' i (by omega) (by omega) (by omega) (by omega)))⟩
  · rw [s' 31 (by decide) (by decide) (by decide) (by decide)]
    exact hw.2.2.1
  · have hn := hw.2.2.1
    rw [s' 31 (by decide) (by decide) (by decide) (by decide)] at b
    rw [s' _ (by omega) (by omega) (by omega) (by omega), s' _ (by omega) (by omega) (by omega) (by omega), s' _ (by omega) (by omega) (by omega) (by omega)]
    exact hw.2.2.2.1 k a b
  · rw [e74, e75, e76, fu_s, s' 78 (by decide) (by decide) (by decide) (by decide), s' 79 (by decide) (by decide) (by decide) (by decide), s' 80 (by decide) (by decide) (by decide) (by decide), s' 81 (by decide) (by decide) (by decide) (by decide)]
    exact ⟨g1, g2, g3, g4, hw.2.2.2.2.2.2.2.2⟩
