theorem sim_setLines {d e : Nat} {B x1 x2 x3 x4 : Int} {μ : zMem} (h1 : zIn x1) (h2 : zIn x2) (h3 : zIn x3) (h4 : zIn x4) (h : SIM B μ) : kX7_setLines (d + 4) x1 x2 x3 x4 μ (fun r μ1 => kX8_setLines (e + 2) x1 x2 x3 x4 μ1 (twin (B + 2) r)) := by
  have S := h.up
  obtain ⟨s, hh, n, f, H⟩ := h
  have hw := H.1.2.1
  have bad : ¬ ((0 ≤ x1 ∧ x1 ≤ 35) ∧ (0 ≤ x2 ∧ x2 ≤ 5) ∧ (0 ≤ x3 ∧ x3 ≤ 2) ∧ (1 ≤ x4 ∧ x4 ≤ 9)) → kX8_setLines (e + 2) x1 x2 x3 x4 μ (twin (B + 2) (-3)) := fun g => pX8_setLines H.pre h1 h2 h3 h4 (fun _ => ⟨zi _, zi _, rfl, S⟩) (fun q => absurd q g)
  refine bX7_setLines (cin h1 (zi _) (zi _) (fun g => bad (fun q => g q.1)) (fun g1 => ?_))
  refine cin h2 (zi _) (zi _) (fun g => bad (fun q => g q.2.1)) (fun g2 => ?_)
  refine cin h3 (zi _) (zi _) (fun g => bad (fun q => g q.2.2.1)) (fun g3 => ?_)
  refine cin h4 (zi _) (zi _) (fun g => bad (fun q => g q.2.2.2)) (fun g4 => ?_)
  refine H.rem ?_
  intro μr c r
  have c6 : XS 1 s μr := r.xs H.2.2.2.2.1
  have w6 := c6.2.2.2.2.2.1
  rw [show gI μr 6 4 = s 78 from w6 4 (by omega) (by omega)]
  have s' : ∀ i, i ≠ 78 → i ≠ 79 → i ≠ 80 → i ≠ 81 → fu (fu (fu (fu s 78 x1) 79 x2) 80 x3) 81 x4 i = s i := fun i a b c e => by rw [fu_o e, fu_o c, fu_o b, fu_o a]
  have e78 : fu (fu (fu (fu s 78 x1) 79 x2) 80 x3) 81 x4 78 = x1 := by rw [fu_o (by decide), fu_o (by decide), fu_o (by decide), fu_s]
  have e79 : fu (fu (fu (fu s 78 x1) 79 x2) 80 x3) 81 x4 79 = x2 := by rw [fu_o (by decide), fu_o (by decide), fu_s]
  have e80 : fu (fu (fu (fu s 78 x1) 79 x2) 80 x3) 81 x4 80 = x3 := by rw [fu_o (by decide), fu_s]
  have cc : cop f n s (fu (fu (fu (fu s 78 x1) 79 x2) 80 x3) 81 x4) μ (sI (sI (sI (sI μr 6 4 x1) 6 5 x2) 6 6 x3) 6 7 x4) := by
    have hn := hw.2.2.1
    refine cop.set H c (fun i a b => s' i (by omega) (by omega) (by omega) (by omega)) (fun i a b => s' i (by omega) (by omega) (by omega) (by omega)) rfl rfl rfl (fun q a b c => by rw [gI_sIn c, gI_sIn c, gI_sIn c, gI_sIn c]) ?_ (fun i a b => ?_) (fun i a b => ?_)
    · rw [gI_sIn (by decide), gI_sIn (by decide), gI_sIn (by decide), gI_sIn (by decide), s' 31 (by decide) (by decide) (by decide) (by decide)]
      exact c6.2.2.2.1
    · rw [s' 31 (by decide) (by decide) (by decide) (by decide)] at b
      rw [gI_sIn (by decide), gI_sIn (by decide), gI_sIn (by decide), gI_sIn (by decide), s' _ (by omega) (by omega) (by omega) (by omega)]
      exact c6.2.2.2.2.1 i a b
    · by_cases i3 : i = 7
      · rw [i3, gI_sIs]; exact fu_s.symm
      by_cases i2 : i = 6
      · rw [i2, gI_sIo (by decide), gI_sIs]; exact e80.symm
      by_cases i1 : i = 5
      · rw [i1, gI_sIo (by decide), gI_sIo (by decide), gI_sIs]; exact e79.symm
      by_cases i0 : i = 4
      · rw [i0, gI_sIo (by decide), gI_sIo (by decide), gI_sIo (by decide), gI_sIs]; exact e78.symm
      rw [gI_sIo i3, gI_sIo i2, gI_sIo i1, gI_sIo i0, s' _ (by omega) (by omega) (by omega) (by omega)]
      exact w6 i a b
  refine pX8_setLines (cc.pre H) h1 h2 h3 h4 (fun q => absurd ⟨g1, g2, g3, g4⟩ q) (fun _ μ' m => ?_)
  have w9 := hw.2.2.2.2.2.2.2.2.1
  refine ⟨zi _, zi _, rfl, H.op cc m (wf_words hw (fun i a b => s' i (by omega) (by omega) (by omega) (by omega)) ?_ (fun k a b => ?_) ?_) (wfP_c H.1.2.2 (fun i a b => s' i (by omega) (by omega) (by omega) (by omega)))⟩
  · rw [s' 31 (by decide) (by decide) (by decide) (by decide)]
    exact hw.2.2.1
  · have hn := hw.2.2.1
    rw [s' 31 (by decide) (by decide) (by decide) (by decide)] at b
    rw [s' _ (by omega) (by omega) (by omega) (by omega), s' _ (by omega) (by omega) (by omega) (by omega), s' _ (by omega) (by omega) (by omega) (by omega)]
    exact hw.2.2.2.1 k a b
  · rw [e78, e79, e80, fu_s, s' 74 (by decide) (by decide) (by decide) (by decide), s' 75 (by decide) (by decide) (by decide) (by decide), s' 76 (by decide) (by decide) (by decide) (by decide), s' 77 (by decide) (by decide) (by decide) (by decide)]
    exact ⟨hw.2.2.2.2.1, hw.2.2.2.2.2.1, hw.2.2.2.2.2.2.1, hw.2.2.2.2.2.2.2.1, g1, g2, g3, g4⟩
theorem sim_clearWords {d e : Nat} {B : Int} {μ : zMem} (h : SIM B μ) : kX7_clearWords (d + 4) μ (fun r μ1 => kX8_clearWords (e + 2) μ1 (twin (B + 2) r)) := by
  obtain ⟨s, hh, n, f, H⟩ := h
  have hw := H.1.2.1
  have hn := hw.2.2.1
  refine bX7_clearWords (H.rem ?_)
  intro μr c r
  have c6 : XS 1 s μr := r.xs H.2.2.2.2.1
  rw [c6.2.2.2.1]
  have cc : cop f n s (fu s 31 0) μ (sI μr 1 1 0) := by
    refine cop.set H c (fun i a b => fu_o (by omega)) (fun i a b => fu_o (by omega)) rfl rfl rfl (fun q a b c => gI_sIn a) (by rw [gI_sIs, fu_s]) (fun i a b => by rw [fu_s] at b; omega) (fun i a b => by rw [gI_sIn (by decide), fu_o (by omega)]; exact c6.2.2.2.2.2.1 i a b)
  refine pX8_clearWords (cc.pre H) (fun μ' m => ⟨zi _, zi _, rfl, H.op cc m (wf_words hw (fun i a b => fu_o (by omega)) (by rw [fu_s]; omega) (fun k a b => by rw [fu_s] at b; omega) ?_) (wfP_c H.1.2.2 (fun i a b => fu_o (by omega)))⟩)
  rw [fu_o (by decide), fu_o (by decide), fu_o (by decide), fu_o (by decide), fu_o (by decide), fu_o (by decide), fu_o (by decide), fu_o (by decide)]
  exact hw.2.2.2.2
theorem sim_addWord {d e : Nat} {B x1 x2 : Int} {μ : zMem} (h1 : zIn x1) (h2 : zIn x2) (h : SIM B μ) : kX7_addWord (d + 4) x1 x2 μ (fun r μ1 => kX8_addWord (e + 2) x1 x2 μ1 (twin (B + 2) r)) := by
  have S := h.up
  obtain ⟨s, hh, n, f, H⟩ := h
  have hw := H.1.2.1
  have hn := hw.2.2.1
  have bad : ¬ ((1 ≤ x1 ∧ x1 ≤ 12) ∧ (1 ≤ x2 ∧ x2 ≤ 3)) → kX8_addWord (e + 2) x1 x2 μ (twin (B + 2) (-3)) := fun g => pX8_addWord H.pre h1 h2 (fun _ => ⟨zi _, zi _, rfl, S⟩) (fun q => absurd q g) (fun q => absurd q g)
  refine bX7_addWord (cin h1 (zi _) (zi _) (fun g => bad (fun q => g q.1)) (fun g1 => ?_))
  refine cin h2 (zi _) (zi _) (fun g => bad (fun q => g q.2)) (fun g2 => ?_)
  rw [H.2.2.2.2.1.2.2.2.1]
  refine ⟨zi _, fun lt => H.rem ?_, fun lt => pX8_addWord H.pre h1 h2 (fun q => absurd ⟨g1, g2⟩ q) (fun _ _ => ⟨zi _, zi _, rfl, S⟩) (fun _ q => absurd q lt)⟩
  intro μr c r
  have c6 : XS 1 s μr := r.xs H.2.2.2.2.1
  rw [c6.2.2.2.1]
  refine bX5_putWord ⟨by omega, by omega, by omega, by omega, by omega, by omega, ?_⟩
  rw [gI_sIs, gI_sIn (show (1 : Nat) ≠ 5 by decide), gI_sIn (show (1 : Nat) ≠ 5 by decide), gI_sIn (show (1 : Nat) ≠ 5 by decide), c6.2.2.2.1]
  have pj := putW_j (s := s) (k := s 31) (l := x1) (w := x2) (m := 0)
  have s' : ∀ i, i ≠ 31 → ¬ (32 + 3 * s 31 ≤ i ∧ i ≤ 32 + 3 * s 31 + 2) → fu (putW s (s 31) x1 x2 0) 31 (s 31 + 1) i = s i := fun i a b => by rw [fu_o a, putW_at b]
  have sj : ∀ i, i ≠ 31 → fu (putW s (s 31) x1 x2 0) 31 (s 31 + 1) i = putW s (s 31) x1 x2 0 i := fun i a => fu_o a
  have cc : cop f n s (fu (putW s (s 31) x1 x2 0) 31 (s 31 + 1)) μ (sI (sI (sI (sI μr 5 (s 31 * 3 + 0) x1) 5 (s 31 * 3 + 1) x2) 5 (s 31 * 3 + 2) 0) 1 1 (s 31 + 1)) := by
    refine cop.set H c (fun i a b => s' i (by omega) (by omega)) (fun i a b => s' i (by omega) (by omega)) rfl rfl rfl (fun q a b c => by rw [gI_sIn a, gI_sIn b, gI_sIn b, gI_sIn b]) (by rw [gI_sIs, fu_s]) (fun i a b => ?_) (fun i a b => ?_)
    · rw [fu_s] at b
      rw [gI_sIn (by decide)]
      by_cases i2 : i = s 31 * 3 + 2
      · rw [i2, gI_sIs, sj _ (by omega), show 32 + (s 31 * 3 + 2) = 32 + 3 * s 31 + 2 by omega, pj.2.2]
      by_cases i1 : i = s 31 * 3 + 1
      · rw [i1, gI_sIo (by omega), gI_sIs, sj _ (by omega), show 32 + (s 31 * 3 + 1) = 32 + 3 * s 31 + 1 by omega, pj.2.1]
      by_cases i0 : i = s 31 * 3 + 0
      · rw [i0, gI_sIo (by omega), gI_sIo (by omega), gI_sIs, sj _ (by omega), show 32 + (s 31 * 3 + 0) = 32 + 3 * s 31 + 0 by omega, pj.1]
      rw [gI_sIo i2, gI_sIo i1, gI_sIo i0, s' _ (by omega) (by omega)]
      exact c6.2.2.2.2.1 i a (by omega)
    · rw [gI_sIn (by decide), gI_sIn (by decide), gI_sIn (by decide), gI_sIn (by decide), s' _ (by omega) (by omega)]
      exact c6.2.2.2.2.2.1 i a b
  refine pX8_addWord (cc.pre H) h1 h2 (fun q => absurd ⟨g1, g2⟩ q) (fun _ q => by omega) (fun _ _ μ' m => ?_)
  refine ⟨zi _, zi _, by omega, H.op cc m (wf_words hw (fun i a b => s' i (by omega) (by omega)) (by rw [fu_s]; omega) (fun k a b => ?_) ?_) (wfP_c H.1.2.2 (fun i a b => s' i (by omega) (by omega)))⟩
  · rw [fu_s] at b
    by_cases e : k = s 31
    · rw [e, sj _ (by omega), sj _ (by omega), sj _ (by omega), pj.1, pj.2.1, pj.2.2]
      omega
    · rw [s' _ (by omega) (by omega), s' _ (by omega) (by omega), s' _ (by omega) (by omega)]
      exact hw.2.2.2.1 k a (by omega)
  · rw [s' 74 (by decide) (by omega), s' 75 (by decide) (by omega), s' 76 (by decide) (by omega), s' 77 (by decide) (by omega), s' 78 (by decide) (by omega), s' 79 (by decide) (by omega), s' 80 (by decide) (by omega), s' 81 (by decide) (by omega)]
    exact hw.2.2.2.2
theorem sim_setWord {d e : Nat} {B x1 x2 x3 x4 : Int} {μ : zMem} (h1 : zIn x1) (h2 : zIn x2) (h3 : zIn x3) (h4 : zIn x4) (h : SIM B μ) : kX7_setWord (d + 4) x1 x2 x3 x4 μ (fun r μ1 => kX8_setWord (e + 2) x1 x2 x3 x4 μ1 (twin (B + 2) r)) := by
  have S := h.up
  obtain ⟨s, hh, n, f, H⟩ := h
  have hw := H.1.2.1
  have hn := hw.2.2.1
  refine bX7_setWord ?_
  rw [H.2.2.2.2.1.2.2.2.1]
  refine cin h1 (zi _) (zi _) (fun g => pX8_setWord H.pre h1 h2 h3 h4 (fun _ => ⟨zi _, zi _, rfl, S⟩) (fun q => absurd (by omega) g) (fun q => absurd (by omega) g)) (fun g1 => ?_)
  have bad : ¬ ((1 ≤ x2 ∧ x2 ≤ 12) ∧ (1 ≤ x3 ∧ x3 ≤ 3)) → kX8_setWord (e + 2) x1 x2 x3 x4 μ (twin (B + 2) (-3)) := fun g => pX8_setWord H.pre h1 h2 h3 h4 (fun q => absurd (by omega) q) (fun _ _ => ⟨zi _, zi _, rfl, S⟩) (fun _ q => absurd q g)
  refine cin h2 (zi _) (zi _) (fun g => bad (fun q => g q.1)) (fun g2 => ?_)
  refine cin h3 (zi _) (zi _) (fun g => bad (fun q => g q.2)) (fun g3 => ?_)
  refine H.rem ?_
  intro μr c r
  have c6 : XS 1 s μr := r.xs H.2.2.2.2.1
  have wk := hw.2.2.2.1 x1 g1.1 (by omega)
  refine bX5_partOfWord ⟨by omega, by omega, h4, ?_⟩
  refine bX5_putWord ⟨by omega, by omega, by omega, by omega, by omega, by omega, ?_⟩
  rw [c6.2.2.2.2.1 _ (by omega) (by omega), show 32 + (x1 * 3 + 0) = 32 + 3 * x1 + 0 by omega]
  obtain ⟨mk, hmk⟩ : ∃ mk : Int, (if x4 = 0 then (0 : Int) else 1) = mk := ⟨_, rfl⟩
  have mkb : 0 ≤ mk ∧ mk ≤ 1 := by
    rw [← hmk]
    split <;> omega
  rw [hmk]
  have pj := putW_j (s := s) (k := x1) (l := x2) (w := x3) (m := mk)
  have s' : ∀ i, ¬ (32 + 3 * x1 ≤ i ∧ i ≤ 32 + 3 * x1 + 2) → putW s x1 x2 x3 mk i = s i := fun i b => putW_at b
  have cc : cop f n s (putW s x1 x2 x3 mk) μ (sI (sI (sI μr 5 (x1 * 3 + 0) x2) 5 (x1 * 3 + 1) x3) 5 (x1 * 3 + 2) mk) := by
    refine cop.set H c (fun i a b => s' i (by omega)) (fun i a b => s' i (by omega)) rfl rfl rfl (fun q a b c => by rw [gI_sIn b, gI_sIn b, gI_sIn b]) ?_ (fun i a b => ?_) (fun i a b => ?_)
    · rw [gI_sIn (by decide), gI_sIn (by decide), gI_sIn (by decide), s' 31 (by omega)]
      exact c6.2.2.2.1
    · rw [s' 31 (by omega)] at b
      by_cases i2 : i = x1 * 3 + 2
      · rw [i2, gI_sIs, show 32 + (x1 * 3 + 2) = 32 + 3 * x1 + 2 by omega, pj.2.2]
      by_cases i1 : i = x1 * 3 + 1
      · rw [i1, gI_sIo (by omega), gI_sIs, show 32 + (x1 * 3 + 1) = 32 + 3 * x1 + 1 by omega, pj.2.1]
      by_cases i0 : i = x1 * 3 + 0
      · rw [i0, gI_sIo (by omega), gI_sIo (by omega), gI_sIs, show 32 + (x1 * 3 + 0) = 32 + 3 * x1 + 0 by omega, pj.1]
      rw [gI_sIo i2, gI_sIo i1, gI_sIo i0, s' _ (by omega)]
      exact c6.2.2.2.2.1 i a b
    · rw [gI_sIn (by decide), gI_sIn (by decide), gI_sIn (by decide), s' _ (by omega)]
      exact c6.2.2.2.2.2.1 i a b
  refine pX8_setWord (cc.pre H) h1 h2 h3 h4 (fun q => absurd (by omega) q) (fun _ q => absurd ⟨g2, g3⟩ q) (fun _ _ μ' m => ?_)
  rw [hmk] at m
  refine ⟨zi _, zi _, rfl, H.op cc m (wf_words hw (fun i a b => s' i (by omega)) (by rw [s' 31 (by omega)]; exact hn) (fun k a b => ?_) ?_) (wfP_c H.1.2.2 (fun i a b => s' i (by omega)))⟩
  · rw [s' 31 (by omega)] at b
    by_cases e : k = x1
    · rw [e, pj.1, pj.2.1, pj.2.2]
      omega
    · rw [s' _ (by omega), s' _ (by omega), s' _ (by omega)]
      exact hw.2.2.2.1 k a b
  · rw [s' 74 (by omega), s' 75 (by omega), s' 76 (by omega), s' 77 (by omega), s' 78 (by omega), s' 79 (by omega), s' 80 (by omega), s' 81 (by omega)]
    exact hw.2.2.2.2
