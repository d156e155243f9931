/-! the model's canvas -/
theorem pX8_in {d : Nat} {Q : Int → zMem → Prop} {μ : zMem} {x0 x1 x2 : Int} (h0 : zIn x0) (h1 : zIn x1) (h2 : zIn x2) (hQ : Q (b2 (x1 ≤ x0 ∧ x0 ≤ x2)) μ) : kX8_in d x0 x1 x2 μ Q := by
  refine bX8_in ⟨⟨h0, h1, fun _ => trivial, fun _ => h2⟩, ?_⟩
  have e : (if x0 < x1 then (0 : Int) else if x2 < x0 then 0 else 1) = b2 (x1 ≤ x0 ∧ x0 ≤ x2) := by
    unfold b2
    by_cases a : x0 < x1
    · rw [if_pos a, if_neg (by omega)]
    · rw [if_neg a]
      by_cases b : x2 < x0
      · rw [if_pos b, if_neg (by omega)]
      · rw [if_neg b, if_pos (by omega)]
  rw [e]
  exact hQ
theorem mem_ext {μ μ' : zMem} (h1 : gD μ = gD μ') (h2 : ∀ q j, gI μ q j = gI μ' q j) (h3 : gL μ = gL μ') (h4 : gR μ = gR μ') : μ = μ' := by
  obtain ⟨a, b, c, e⟩ := μ
  obtain ⟨a', b', c', e'⟩ := μ'
  simp only [gD, gI, gL, gR] at h1 h2 h3 h4
  have hb : b = b' := by
    funext q j
    exact h2 q j
  rw [h1, hb, h3, h4]
theorem cI_0 {μ : zMem} {p q : Nat} {i j : Int} : cI μ p i q j 0 = μ := by
  refine mem_ext rfl (fun r x => ?_) rfl rfl
  rw [gI_cI]
  by_cases h : r = q
  · rw [if_pos h, if_neg (by omega), h]
  · rw [if_neg h]
theorem cI_step {μ : zMem} {f t k : Int} (hk : 0 ≤ k) (hd : f + k < t ∨ t + k ≤ f) : sI (cI μ 55 f 55 t k) 55 (t + k) (gI (cI μ 55 f 55 t k) 55 (f + k)) = cI μ 55 f 55 t (k + 1) := by
  refine mem_ext rfl (fun r x => ?_) rfl rfl
  rw [gI_sI, gI_cI, gI_cI, gI_cI]
  by_cases h : r = 55
  · subst h
    simp only [if_true, true_and]
    by_cases hx : x = t + k
    · rw [if_pos hx, if_neg (by omega), if_pos (by omega)]
      congr 1
      omega
    · rw [if_neg hx]
      by_cases h2 : t ≤ x ∧ x < t + k
      · rw [if_pos h2, if_pos (by omega)]
      · rw [if_neg h2, if_neg (by omega)]
  · simp [h]
theorem pX8_copies {d : Nat} {Q : zMem → Prop} {μ : zMem} {f t : Int} (f0 : 0 ≤ f) (f1 : f ≤ 1028) (t0 : 0 ≤ t) (t1 : t ≤ 1028) (hd : f + 257 ≤ t ∨ t + 257 ≤ f) (hQ : Q (cI μ 55 f 55 t 257)) : kX8_copies d f t μ Q := by
  refine bX8_copies ?_
  have loop : ∀ (m k : Nat), k + m = 257 → zX8_copies_2 d Q f t k (cI μ 55 f 55 t k) := by
    intro m
    induction m with
    | zero =>
      intro k hk
      have : (k : Int) = 257 := by omega
      refine bX8_copies_2 ⟨zi _, fun _ => ?_, fun h => absurd (by omega) h⟩
      rw [this]
      exact hQ
    | succ m ih =>
      intro k hk
      refine bX8_copies_2 ⟨zi _, fun h => absurd h (by omega), fun _ => ⟨by omega, by omega, by omega, by omega, ?_⟩⟩
      rw [cI_step (by omega) (by omega)]
      exact ih (k + 1) (by omega)
  have := loop 257 0 (by omega)
  rw [show ((0 : Nat) : Int) = 0 from rfl, cI_0] at this
  exact this
/-- the class's side is as it was -/
def clsame (μ μ' : zMem) : Prop := gD μ' = gD μ ∧ gR μ' = gR μ ∧ ∀ q : Nat, (q < 54 ∨ 64 < q) → gI μ' q = gI μ q ∧ gL μ' q = gL μ q
theorem clsame.rf {μ : zMem} : clsame μ μ := ⟨rfl, rfl, fun _ _ => ⟨rfl, rfl⟩⟩
theorem clsame.tr {μ μ' μ'' : zMem} (h : clsame μ μ') (h' : clsame μ' μ'') : clsame μ μ'' := ⟨h'.1.trans h.1, h'.2.1.trans h.2.1, fun q hq => ⟨(h'.2.2 q hq).1.trans (h.2.2 q hq).1, (h'.2.2 q hq).2.trans (h.2.2 q hq).2⟩⟩
theorem clsame.sI {μ μ' : zMem} {p : Nat} {i v : Int} (h : clsame μ μ') (hp : 54 ≤ p ∧ p ≤ 64) : clsame μ (sI μ' p i v) := ⟨h.1, h.2.1, fun q hq => ⟨(gI_sIn (by omega)).trans (h.2.2 q hq).1, (h.2.2 q hq).2⟩⟩
theorem clsame.sL {μ μ' : zMem} {p : Nat} {i : Int} {v : Int64} (h : clsame μ μ') (hp : 54 ≤ p ∧ p ≤ 64) : clsame μ (sL μ' p i v) := ⟨h.1, h.2.1, fun q hq => ⟨(h.2.2 q hq).1, (gL_sLn (by omega)).trans (h.2.2 q hq).2⟩⟩
theorem clsame.cI {μ μ' : zMem} {p q : Nat} {i j n : Int} (h : clsame μ μ') (hp : 54 ≤ q ∧ q ≤ 64) : clsame μ (cI μ' p i q j n) := ⟨h.1, h.2.1, fun r hr => ⟨(gI_cIn (by omega)).trans (h.2.2 r hr).1, (h.2.2 r hr).2⟩⟩
/-- what 'records' does -/
def recP (μ μ' : zMem) : Prop := clsame μ μ' ∧ (∀ q, q ≠ 54 → q ≠ 55 → gI μ' q = gI μ q) ∧ gL μ' = gL μ ∧ (∀ i, i ≠ 1 → gI μ' 54 i = gI μ 54 i) ∧ gI μ' 54 1 = (if gI μ 54 1 = 4 then 4 else gI μ 54 1 + 1) ∧
  (∀ i, 0 ≤ i → i < 257 → gI μ' 55 i = gI μ 55 i) ∧ (∀ i, 0 ≤ i → i < 257 → gI μ' 55 (257 * (if gI μ 54 1 = 4 then 4 else gI μ 54 1 + 1) + i) = gI μ 55 i) ∧
  (∀ j i, 1 ≤ j → j < (if gI μ 54 1 = 4 then 4 else gI μ 54 1 + 1) → 0 ≤ i → i < 257 → gI μ' 55 (257 * j + i) = gI μ 55 (257 * (if gI μ 54 1 = 4 then j + 1 else j) + i))
theorem pX8_records {d : Nat} {Q : zMem → Prop} {μ : zMem} (k0 : 0 ≤ gI μ 54 1) (k1 : gI μ 54 1 ≤ 4) (hQ : ∀ μ', recP μ μ' → Q μ') : kX8_records (d + 1) μ Q := by
  refine bX8_records ?_
  by_cases h4 : gI μ 54 1 = 4
  · have g4 : ∀ (p : Nat) (i j n : Int), gI (cI μ p i 55 j n) 54 1 = 4 := fun p i j n => by rw [gI_cIn (by decide)]; exact h4
    refine bX8_records_2 ⟨zi _, fun h => absurd h (by omega), fun _ => ⟨zi _, fun _ => ?_, fun h => absurd h4 h⟩⟩
    refine pX8_copies (by omega) (by omega) (by omega) (by omega) (by omega) ?_
    refine bX8_records_2 ⟨zi _, fun h => absurd h (by omega), fun _ => ⟨by rw [g4]; exact z_lit rfl, fun _ => ?_, fun h => absurd (g4 _ _ _ _) h⟩⟩
    refine pX8_copies (by omega) (by omega) (by omega) (by omega) (by omega) ?_
    have g5 : ∀ (p : Nat) (i j n : Int) (p' : Nat) (i' j' n' : Int), gI (cI (cI μ p i 55 j n) p' i' 55 j' n') 54 1 = 4 := fun p i j n p' i' j' n' => by rw [gI_cIn (by decide)]; exact g4 _ _ _ _
    refine bX8_records_2 ⟨zi _, fun h => absurd h (by omega), fun _ => ⟨by rw [g5]; exact z_lit rfl, fun _ => ?_, fun h => absurd (g5 _ _ _ _ _ _ _ _) h⟩⟩
    refine pX8_copies (by omega) (by omega) (by omega) (by omega) (by omega) ?_
    generalize hν : cI (cI (cI μ 55 (257 * (1 + 1)) 55 (257 * 1) 257) 55 (257 * (1 + 1 + 1)) 55 (257 * (1 + 1)) 257) 55 (257 * (1 + 1 + 1 + 1)) 55 (257 * (1 + 1 + 1)) 257 = ν
    have e1 : gI ν 54 = gI μ 54 := by rw [← hν, gI_cIn (by decide), gI_cIn (by decide), gI_cIn (by decide)]
    have e2 : clsame μ ν := by rw [← hν]; exact ((clsame.rf.cI (by omega)).cI (by omega)).cI (by omega)
    have e3 : ∀ q, q ≠ 54 → q ≠ 55 → gI ν q = gI μ q := fun q a b => by rw [← hν, gI_cIn b, gI_cIn b, gI_cIn b]
    have e4 : gL ν = gL μ := by rw [← hν]; rfl
    have e5 : ∀ i, 0 ≤ i → i < 257 → gI ν 55 i = gI μ 55 i := fun i a b => by
      rw [← hν]
      simp only [gI_cI, if_true]
      rw [if_neg (by omega), if_neg (by omega), if_neg (by omega)]
    have e6 : ∀ j i, 1 ≤ j → j < 4 → 0 ≤ i → i < 257 → gI ν 55 (257 * j + i) = gI μ 55 (257 * (j + 1) + i) := fun j i a b c e => by
      rw [← hν]
      simp only [gI_cI, if_true]
      rcases (show j = 1 ∨ j = 2 ∨ j = 3 by omega) with rfl | rfl | rfl
      · rw [if_neg (by omega), if_neg (by omega), if_pos (by omega)]
        congr 1
        omega
      · rw [if_neg (by omega), if_pos (by omega), if_neg (by omega)]
        congr 1
        omega
      · rw [if_pos (by omega), if_neg (by omega), if_neg (by omega)]
        congr 1
        omega
    have e7 : gI ν 54 1 = 4 := by rw [e1]; exact h4
    refine bX8_records_2 ⟨zi _, fun _ => ⟨by rw [e7]; exact z_lit rfl, ?_⟩, fun h => absurd (by omega) h⟩
    have k4 : gI (sI (sI ν 54 1 (gI ν 54 1 - if gI ν 54 1 = 4 then 1 else 0)) 54 1 (gI (sI ν 54 1 (gI ν 54 1 - if gI ν 54 1 = 4 then 1 else 0)) 54 1 + 1)) 54 1 = 4 := by
      rw [gI_sIs, gI_sIs, e7]
      rfl
    rw [k4]
    refine pX8_copies (by omega) (by omega) (by omega) (by omega) (by omega) ?_
    refine hQ _ ⟨((e2.sI (by omega)).sI (by omega)).cI (by omega), fun q a b => ?_, e4, fun i hi => ?_, ?_, fun i a b => ?_, fun i a b => ?_, fun j i a b c e => ?_⟩
    · rw [gI_cIn b, gI_sIn a, gI_sIn a]
      exact e3 q a b
    · rw [gI_cIn (by decide), gI_sIo hi, gI_sIo hi, e1]
    · rw [gI_cIn (by decide), k4, if_pos h4]
    · simp only [gI_cI, if_true]
      rw [if_neg (by omega), gI_sIn (by decide), gI_sIn (by decide)]
      exact e5 i a b
    · rw [if_pos h4]
      simp only [gI_cI, if_true]
      rw [if_pos (by omega), gI_sIn (by decide), gI_sIn (by decide), ← e5 i a b]
      congr 1
      omega
    · rw [if_pos h4] at b ⊢
      simp only [gI_cI, if_true]
      rw [if_neg (by omega), gI_sIn (by decide), gI_sIn (by decide)]
      exact e6 j i a b c e
  · refine bX8_records_2 ⟨zi _, fun h => absurd h (by omega), fun _ => ⟨zi _, fun h => absurd h h4, fun _ => ?_⟩⟩
    have k4 : gI (sI (sI μ 54 1 (gI μ 54 1 - if gI μ 54 1 = 4 then 1 else 0)) 54 1 (gI (sI μ 54 1 (gI μ 54 1 - if gI μ 54 1 = 4 then 1 else 0)) 54 1 + 1)) 54 1 = gI μ 54 1 + 1 := by
      rw [gI_sIs, gI_sIs, if_neg h4]
      omega
    rw [k4]
    refine pX8_copies (by omega) (by omega) (by omega) (by omega) (by omega) ?_
    refine hQ _ ⟨((clsame.rf.sI (by omega)).sI (by omega)).cI (by omega), fun q a b => ?_, rfl, fun i hi => ?_, ?_, fun i a b => ?_, fun i a b => ?_, fun j i a b c e => ?_⟩
    · rw [gI_cIn b, gI_sIn a, gI_sIn a]
    · rw [gI_cIn (by decide), gI_sIo hi, gI_sIo hi]
    · rw [gI_cIn (by decide), k4, if_neg h4]
    · simp only [gI_cI, if_true]
      rw [if_neg (by omega), gI_sIn (by decide), gI_sIn (by decide)]
    · rw [if_neg h4]
      simp only [gI_cI, if_true]
      rw [if_pos (by omega), gI_sIn (by decide), gI_sIn (by decide)]
      congr 1
      omega
    · rw [if_neg h4] at b ⊢
      simp only [gI_cI, if_true]
      rw [if_neg (by omega), gI_sIn (by decide), gI_sIn (by decide)]
      rw [if_neg h4]
/-- block 0 of the model's row is the state s -/
def rowIs (μ : zMem) (s : Int → Int) : Prop := ∀ i, 0 ≤ i → i < 257 → gI μ 55 i = s i
theorem pX8_shapeOf {d : Nat} {Q : Int → zMem → Prop} {μ : zMem} {s : Int → Int} {k w : Int} (hr : rowIs μ s) (k0 : 0 ≤ k) (k1 : k < 6) (w0 : 0 ≤ w) (w1 : w < 5) (hQ : Q (s (1 + 5 * k + w)) μ) : kX8_shapeOf d k w μ Q := by
  refine bX8_shapeOf ⟨by omega, by omega, ?_⟩
  rw [hr _ (by omega) (by omega)]
  exact hQ
theorem pX8_size {d : Nat} {Q : Int → zMem → Prop} {μ : zMem} {z : Int} (h : zIn z) (hQ : Q (iabs z) μ) : kX8_size d z μ Q := bX8_size ⟨h, hQ⟩
theorem iabs_bd {z A : Int} (h : -A ≤ z) (h' : z ≤ A) : 0 ≤ iabs z ∧ iabs z ≤ A := by
  unfold iabs
  split <;> omega
theorem pX8_belongs {d : Nat} {Q : Int → zMem → Prop} {μ : zMem} {s : Int → Int} {k x y : Int} (hr : rowIs μ s) (hw : wf s) (k0 : 0 ≤ k) (k1 : k < s 0) (hx : zIn x) (hy : zIn y) (hQ : Q (b2 (bel s k x y = true)) μ) : kX8_belongs (d + 1) k x y μ Q := by
  have hns := hw.1
  obtain ⟨q0, q1, q2, q3, q4, q5, q6, q7⟩ := hw.2.1 k k0 k1
  generalize hbv : b2 (bel s k x y = true) = bv at hQ
  simp only [bel, decide_eq_true_eq] at hbv
  generalize e0 : s (1 + 5 * k + 0) = kd at q0 q1 hbv
  generalize e1 : s (1 + 5 * k + 1) = X1 at q2 q3 hbv
  generalize e2 : s (1 + 5 * k + 2) = Y1 at q5 q6 hbv
  generalize e3 : s (1 + 5 * k + 3) = X2 at q3 q4 hbv
  generalize e4 : s (1 + 5 * k + 4) = Y2 at q6 q7 hbv
  refine bX8_belongs ?_
  refine pX8_shapeOf hr k0 (by omega) (by omega) (by omega) ?_
  refine pX8_shapeOf hr k0 (by omega) (by omega) (by omega) ?_
  refine pX8_shapeOf hr k0 (by omega) (by omega) (by omega) ?_
  refine pX8_shapeOf hr k0 (by omega) (by omega) (by omega) ?_
  rw [e1, e2, e3, e4]
  refine pX8_in hx (zi _) (zi _) ⟨b2_in _, fun h => ?_, fun h => ?_⟩
  · rw [b2_0] at h
    have : bv = 0 := by rw [← hbv, b2_0]; omega
    rw [← this]
    exact hQ
  rw [b2_0, Classical.not_not] at h
  refine pX8_in hy (zi _) (zi _) ⟨b2_in _, fun h' => ?_, fun h' => ?_⟩
  · rw [b2_0] at h'
    have : bv = 0 := by rw [← hbv, b2_0]; omega
    rw [← this]
    exact hQ
  rw [b2_0, Classical.not_not] at h'
  refine pX8_size (zi _) ?_
  refine pX8_size (zi _) ?_
  refine pX8_shapeOf hr k0 (by omega) (by omega) (by omega) ?_
  rw [e0]
  have hu := iabs_bd (z := 2 * x - X1 - X2) (A := 47) (by omega) (by omega)
  have hv := iabs_bd (z := 2 * y - Y1 - Y2) (A := 35) (by omega) (by omega)
  generalize iabs (2 * x - X1 - X2) = u at hu hbv ⊢
  generalize iabs (2 * y - Y1 - Y2) = v at hv hbv ⊢
  have ha : 0 ≤ X2 - X1 + 1 ∧ X2 - X1 + 1 ≤ 48 := by omega
  have hb : 0 ≤ Y2 - Y1 + 1 ∧ Y2 - Y1 + 1 ≤ 36 := by omega
  have hdp : 0 ≤ y - Y1 + 1 ∧ y - Y1 + 1 ≤ 36 := by omega
  generalize X2 - X1 + 1 = a at ha hbv ⊢
  generalize Y2 - Y1 + 1 = b at hb hbv ⊢
  generalize y - Y1 + 1 = dp at hdp hbv ⊢
  have m1 := imul_bd hu.1 hu.2 hb.1 hb.2
  have m2 := imul_bd hv.1 hv.2 ha.1 ha.2
  have m3 := imul_bd ha.1 ha.2 hb.1 hb.2
  have m4 := imul_bd ha.1 ha.2 hdp.1 hdp.2
  have m5 := imul_bd hu.1 hu.2 hu.1 hu.2
  have m6 := imul_bd m5.1 m5.2 hb.1 hb.2
  have m7 := imul_bd m6.1 m6.2 hb.1 hb.2
  have m8 := imul_bd hv.1 hv.2 hv.1 hv.2
  have m9 := imul_bd m8.1 m8.2 ha.1 ha.2
  have m10 := imul_bd m9.1 m9.2 ha.1 ha.2
  have m11 := imul_bd ha.1 ha.2 ha.1 ha.2
  have m12 := imul_bd m11.1 m11.2 hb.1 hb.2
  have m13 := imul_bd m12.1 m12.2 hb.1 hb.2
  have hin : (X1 ≤ x ∧ x ≤ X2) ∧ (Y1 ≤ y ∧ y ≤ Y2) := ⟨h, h'⟩
  have tail3 : ∀ (kd3 : kd ≠ 0 → True), True := fun _ => trivial
  refine ⟨zi _, fun hk => ?_, fun hk => ⟨fun hk1 => ⟨⟨zi _, zi _, fun _ => trivial, fun _ => ⟨fun _ => ⟨zi _, zi _, fun _ => trivial, fun _ => ⟨fun _ => ⟨zi _, zi _⟩, fun _ => trivial⟩⟩, fun _ => ⟨fun _ => ⟨zi _, zi _⟩, fun _ => trivial⟩⟩⟩, ?_⟩, fun hk1 => ⟨⟨fun _ => ⟨zi _, zi _, fun _ => trivial, fun _ => ⟨fun _ => ⟨zi _, zi _⟩, fun _ => trivial⟩⟩, fun _ => ⟨fun _ => ⟨zi _, zi _⟩, fun _ => trivial⟩⟩, ?_⟩⟩⟩
  · have : bv = 1 := by
      rw [← hbv, b2_1]
      exact ⟨h.1, h.2, h'.1, h'.2, Or.inl hk⟩
    rw [← this]
    exact hQ
  · have : bv = b2 (u * b + v * a ≤ a * b) := by
      rw [← hbv]
      refine b2_eq ⟨fun q => ?_, fun q => ⟨h.1, h.2, h'.1, h'.2, Or.inr (Or.inl ⟨hk1, q⟩)⟩⟩
      rcases q.2.2.2.2 with q | q | q | q
      · omega
      · exact q.2
      · omega
      · omega
    rw [if_neg (show ¬ kd = 2 by omega), if_neg (show ¬ kd = 3 by omega)]
    rw [this] at hQ
    exact hQ
  · by_cases hk2 : kd = 2
    · rw [if_pos hk2, if_neg (show ¬ kd = 3 by omega)]
      have : bv = b2 (u * u * b * b + v * v * a * a ≤ a * a * b * b) := by
        rw [← hbv]
        refine b2_eq ⟨fun q => ?_, fun q => ⟨h.1, h.2, h'.1, h'.2, Or.inr (Or.inr (Or.inl ⟨hk2, q⟩))⟩⟩
        rcases q.2.2.2.2 with q | q | q | q
        · omega
        · omega
        · exact q.2
        · omega
      rw [this] at hQ
      exact hQ
    · have hk3 : kd = 3 := by omega
      rw [if_neg hk2, if_pos hk3]
      have : bv = (if a * dp < u * b then 0 else 1) := by
        by_cases c : a * dp < u * b
        · rw [if_pos c, ← hbv, b2_0]
          intro q
          rcases q.2.2.2.2 with q | q | q | q <;> omega
        · rw [if_neg c, ← hbv, b2_1]
          exact ⟨h.1, h.2, h'.1, h'.2, Or.inr (Or.inr (Or.inr ⟨hk3, by omega⟩))⟩
      rw [← this]
      exact hQ
theorem pX8_free {d : Nat} {Q : Int → zMem → Prop} {μ : zMem} {s : Int → Int} {x y : Int} (hr : rowIs μ s) (hw : wf s) (hx : zIn x) (hy : zIn y) (hQ : Q (b2 (freeB s x y = true)) μ) : kX8_free (d + 2) x y μ Q := by
  have hns := hw.1
  have h0 : gI μ 55 0 = s 0 := hr 0 (by omega) (by omega)
  refine bX8_free ?_
  have loop : ∀ (m k : Nat), (k : Int) + m = s 0 → zX8_free_5 (d + 1) Q x y (cnt s x y k) k μ := by
    intro m
    induction m with
    | zero =>
      intro k hk
      have hc := cnt_bd s x y k
      refine bX8_free_5 ⟨zi _, by rw [h0]; exact zi _, fun _ => ?_, fun h => absurd (by omega) h⟩
      have e1 : (cnt s x y k).tdiv 2 = cnt s x y k / 2 := Int.tdiv_eq_ediv_of_nonneg hc.1
      rw [e1]
      refine ⟨zi _, zi _, ?_⟩
      have e2 : k = (s 0).toNat := by omega
      have e3 : (if cnt s x y k - cnt s x y k / 2 * 2 = 1 then (1 : Int) else 0) = b2 (freeB s x y = true) := by
        simp only [freeB, decide_eq_true_eq, ← e2]
        refine b2_eq ?_
        omega
      rw [e3]
      exact hQ
    | succ m ih =>
      intro k hk
      refine bX8_free_5 ⟨zi _, by rw [h0]; exact zi _, fun h => absurd h (by omega), fun _ => ?_⟩
      refine pX8_belongs hr hw (by omega) (by omega) hx hy ⟨b2_in _, ?_⟩
      have e1 : cnt s x y k + (if b2 (bel s k x y = true) = 0 then 0 else 1) = cnt s x y (k + 1) := by
        rw [b2_ite]
        rfl
      rw [e1]
      exact ih (k + 1) (by omega)
  exact loop (s 0).toNat 0 (by omega)
def fcnt (s : Int → Int) (x : Int) : Nat → Int
  | 0 => 0
  | y + 1 => fcnt s x y + b2 (freeB s x y = true)
def fsum (s : Int → Int) : Nat → Int
  | 0 => 0
  | x + 1 => fsum s x + fcnt s x 36
theorem pX8_freeCells {d : Nat} {Q : Int → zMem → Prop} {μ : zMem} {s : Int → Int} (hr : rowIs μ s) (hw : wf s) (hQ : Q (fsum s 48) μ) : kX8_freeCells (d + 3) μ Q := by
  refine bX8_freeCells ?_
  have loop : ∀ (m x : Nat), x + m = 48 → zX8_freeCells_4 (d + 2) Q (fsum s x) x μ := by
    intro m
    induction m with
    | zero =>
      intro x hx
      refine bX8_freeCells_4 ⟨zi _, fun _ => ?_, fun h => absurd (by omega) h⟩
      have : x = 48 := by omega
      rw [this]
      exact hQ
    | succ m ih =>
      intro x hx
      refine bX8_freeCells_4 ⟨zi _, fun h => absurd h (by omega), fun _ => ?_⟩
      have inner : ∀ (j y : Nat), y + j = 36 → zX8_freeCells_12 (d + 2) Q (fsum s x + fcnt s x y) x y μ := by
        intro j
        induction j with
        | zero =>
          intro y hy
          refine bX8_freeCells_12 ⟨zi _, fun _ => ?_, fun h => absurd (by omega) h⟩
          have : y = 36 := by omega
          rw [this]
          exact ih (x + 1) (by omega)
        | succ j ihj =>
          intro y hy
          refine bX8_freeCells_12 ⟨zi _, fun h => absurd h (by omega), fun _ => ?_⟩
          refine pX8_free hr hw (zi _) (zi _) ⟨b2_in _, ?_⟩
          rw [b2_ite, Int.add_assoc]
          exact ihj (y + 1) (by omega)
      have := inner 36 0 (by omega)
      rw [show fcnt s (x : Int) 0 = 0 from rfl, Int.add_zero] at this
      exact this
  exact loop 48 0 (by omega)
theorem pX8_isShape {d : Nat} {Q : Int → zMem → Prop} {μ : zMem} {s : Int → Int} {k : Int} (hr : rowIs μ s) (hw : wf s) (hk : zIn k) (hQ : Q (b2 (0 ≤ k ∧ k < s 0)) μ) : kX8_isShape (d + 1) k μ Q := by
  have hns := hw.1
  have h0 : gI μ 55 0 = s 0 := hr 0 (by omega) (by omega)
  refine bX8_isShape ?_
  rw [h0]
  refine pX8_in hk (zi _) (zi _) ⟨b2_01 _, ?_⟩
  rw [b2_eq (show (0 ≤ k ∧ k ≤ s 0 - 1) ↔ (0 ≤ k ∧ k < s 0) by omega)]
  exact hQ
