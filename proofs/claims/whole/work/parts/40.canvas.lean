/-! the class's canvas -/
theorem pX7_isIn {d : Nat} {Q : Int → zMem → Prop} {μ : zMem} {x0 x1 x2 : Int} (h0 : zIn x0) (h1 : zIn x1) (h2 : zIn x2) (hQ : Q (b2 (x1 ≤ x0 ∧ x0 ≤ x2)) μ) : kX7_isIn d x0 x1 x2 μ Q := by
  refine bX7_isIn ⟨⟨h0, h1, fun _ => trivial, fun _ => h2⟩, ?_⟩
  have e : (if x0 < x1 then (0 : Int) else if x2 < x0 then 0 else 1) = b2 (x1 ≤ x0 ∧ x0 ≤ x2) := by
    unfold b2
    by_cases a : x0 < x1
    · rw [if_pos a, if_neg (by omega)]
    · rw [if_neg a]
      by_cases b : x2 < x0
      · rw [if_pos b, if_neg (by omega)]
      · rw [if_neg b, if_pos (by omega)]
  rw [e]
  exact hQ
theorem cin {d : Nat} {x a b : Int} {μ : zMem} {A B : zMem → Prop} (hx : zIn x) (ha : zIn a) (hb : zIn b) (hA : ¬ (a ≤ x ∧ x ≤ b) → A μ) (hB : a ≤ x ∧ x ≤ b → B μ) : kX7_isIn d x a b μ (fun r μ1 => zIn r ∧ ((r = 0 → A μ1) ∧ (¬ (r = 0) → B μ1))) :=
  pX7_isIn hx ha hb ⟨b2_in _, fun h => hA (b2_0.mp h), fun h => hB (Classical.not_not.mp (fun q => h (b2_0.mpr q)))⟩
def box (x1 y1 x2 y2 : Int) : Prop := (0 ≤ x1 ∧ x1 ≤ 47) ∧ (0 ≤ y1 ∧ y1 ≤ 35) ∧ (x1 ≤ x2 ∧ x2 ≤ 47) ∧ (y1 ≤ y2 ∧ y2 ≤ 35)
theorem pX7_isBox {d : Nat} {Q : Int → zMem → Prop} {μ : zMem} {x0 x1 x2 x3 : Int} (h0 : zIn x0) (h1 : zIn x1) (h2 : zIn x2) (h3 : zIn x3) (hno : ¬ box x0 x1 x2 x3 → Q 0 μ) (hok : box x0 x1 x2 x3 → Q 1 μ) : kX7_isBox (d + 1) x0 x1 x2 x3 μ Q := by
  refine bX7_isBox ?_
  refine cin h0 (zi _) (zi _) (fun g => hno (fun q => g q.1)) (fun g1 => ?_)
  refine cin h1 (zi _) (zi _) (fun g => hno (fun q => g q.2.1)) (fun g2 => ?_)
  refine cin h2 h0 (zi _) (fun g => hno (fun q => g q.2.2.1)) (fun g3 => ?_)
  refine pX7_isIn h3 h1 (zi _) ⟨b2_in _, ?_⟩
  rw [b2_ite]
  by_cases g : x1 ≤ x3 ∧ x3 ≤ 35
  · rw [b2_1.mpr g]
    exact hok ⟨g1, g2, g3, g⟩
  · rw [b2_0.mpr g]
    exact hno (fun q => g q.2.2.2)
def shp (s : Int → Int) (k : Int) : Prop := 0 ≤ s (1 + 5 * k + 0) ∧ s (1 + 5 * k + 0) ≤ 3 ∧ 0 ≤ s (1 + 5 * k + 1) ∧ s (1 + 5 * k + 1) ≤ s (1 + 5 * k + 3) ∧ s (1 + 5 * k + 3) ≤ 47 ∧ 0 ≤ s (1 + 5 * k + 2) ∧ s (1 + 5 * k + 2) ≤ s (1 + 5 * k + 4) ∧ s (1 + 5 * k + 4) ≤ 35
def shIs (μ : zMem) (a : Int) (s : Int → Int) (k : Int) : Prop := ∀ j, 0 ≤ j → j < 5 → gI μ 3 (a + j) = s (1 + 5 * k + j)
theorem pX1_belongs {d : Nat} {Q : Int → zMem → Prop} {μ : zMem} {s : Int → Int} {k x y : Int} (hs : shp s k) (hx : s (1 + 5 * k + 1) ≤ x ∧ x ≤ s (1 + 5 * k + 3)) (hy : s (1 + 5 * k + 2) ≤ y ∧ y ≤ s (1 + 5 * k + 4)) (hQ : Q (b2 (bel s k x y = true)) μ) :
    kX1_belongs d (s (1 + 5 * k + 0)) (if 0 ≤ 2 * x - s (1 + 5 * k + 1) - s (1 + 5 * k + 3) then 2 * x - s (1 + 5 * k + 1) - s (1 + 5 * k + 3) else -(2 * x - s (1 + 5 * k + 1) - s (1 + 5 * k + 3))) (if 0 ≤ 2 * y - s (1 + 5 * k + 2) - s (1 + 5 * k + 4) then 2 * y - s (1 + 5 * k + 2) - s (1 + 5 * k + 4) else -(2 * y - s (1 + 5 * k + 2) - s (1 + 5 * k + 4))) (s (1 + 5 * k + 3) - s (1 + 5 * k + 1) + 1) (s (1 + 5 * k + 4) - s (1 + 5 * k + 2) + 1) (y - s (1 + 5 * k + 2) + 1) μ Q := by
  obtain ⟨q0, q1, q2, q3, q4, q5, q6, q7⟩ := hs
  generalize hbv : b2 (bel s k x y = true) = bv at hQ
  simp only [bel, decide_eq_true_eq] at hbv
  generalize e0 : s (1 + 5 * k + 0) = kd at q0 q1 hbv ⊢
  generalize e1 : s (1 + 5 * k + 1) = X1 at q2 q3 hbv hx ⊢
  generalize e2 : s (1 + 5 * k + 2) = Y1 at q5 q6 hbv hy ⊢
  generalize e3 : s (1 + 5 * k + 3) = X2 at q3 q4 hbv hx ⊢
  generalize e4 : s (1 + 5 * k + 4) = Y2 at q6 q7 hbv hy ⊢
  rw [show (if 0 ≤ 2 * x - X1 - X2 then 2 * x - X1 - X2 else -(2 * x - X1 - X2)) = iabs (2 * x - X1 - X2) from rfl, show (if 0 ≤ 2 * y - Y1 - Y2 then 2 * y - Y1 - Y2 else -(2 * y - Y1 - Y2)) = iabs (2 * y - Y1 - Y2) from rfl]
  have hu := iabs_bd (z := 2 * x - X1 - X2) (A := 47) (by omega) (by omega)
  have hv := iabs_bd (z := 2 * y - Y1 - Y2) (A := 35) (by omega) (by omega)
  generalize iabs (2 * x - X1 - X2) = u at hu hbv ⊢
  generalize iabs (2 * y - Y1 - Y2) = v at hv hbv ⊢
  have ha : 0 ≤ X2 - X1 + 1 ∧ X2 - X1 + 1 ≤ 48 := by omega
  have hb : 0 ≤ Y2 - Y1 + 1 ∧ Y2 - Y1 + 1 ≤ 36 := by omega
  have hdp : 0 ≤ y - Y1 + 1 ∧ y - Y1 + 1 ≤ 36 := by omega
  generalize X2 - X1 + 1 = a at ha hbv ⊢
  generalize Y2 - Y1 + 1 = b at hb hbv ⊢
  generalize y - Y1 + 1 = dp at hdp hbv ⊢
  have m1 := imul_bd hu.1 hu.2 hb.1 hb.2
  have m2 := imul_bd hv.1 hv.2 ha.1 ha.2
  have m3 := imul_bd ha.1 ha.2 hb.1 hb.2
  have m4 := imul_bd ha.1 ha.2 hdp.1 hdp.2
  have m5 := imul_bd hu.1 hu.2 hu.1 hu.2
  have m6 := imul_bd m5.1 m5.2 hb.1 hb.2
  have m7 := imul_bd m6.1 m6.2 hb.1 hb.2
  have m8 := imul_bd hv.1 hv.2 hv.1 hv.2
  have m9 := imul_bd m8.1 m8.2 ha.1 ha.2
  have m10 := imul_bd m9.1 m9.2 ha.1 ha.2
  have m11 := imul_bd ha.1 ha.2 ha.1 ha.2
  have m12 := imul_bd m11.1 m11.2 hb.1 hb.2
  have m13 := imul_bd m12.1 m12.2 hb.1 hb.2
  have fin : ∀ (A B : Int), (bv = 1 ↔ A ≤ B) → (bv = 0 ∨ bv = 1) → (if B < A then (0 : Int) else 1) = bv := by
    intro A B h h'
    split <;> omega
  have h01 : bv = 0 ∨ bv = 1 := by
    rw [← hbv]
    exact b2_01 _
  refine bX1_belongs ⟨zi _, fun k1 => ⟨⟨zi _, zi _⟩, ?_⟩, fun k1 => ⟨fun k2 => ⟨⟨zi _, zi _⟩, ?_⟩, fun k2 => ⟨fun k3 => ⟨⟨zi _, zi _⟩, ?_⟩, fun k3 => ?_⟩⟩⟩
  · rw [fin _ _ ?_ h01]
    · exact hQ
    · rw [← hbv, b2_1]
      refine ⟨fun q => ?_, fun q => ⟨hx.1, hx.2, hy.1, hy.2, Or.inr (Or.inl ⟨k1, q⟩)⟩⟩
      rcases q.2.2.2.2 with q | q | q | q
      · omega
      · exact q.2
      · omega
      · omega
  · rw [fin _ _ ?_ h01]
    · exact hQ
    · rw [← hbv, b2_1]
      refine ⟨fun q => ?_, fun q => ⟨hx.1, hx.2, hy.1, hy.2, Or.inr (Or.inr (Or.inl ⟨k2, q⟩))⟩⟩
      rcases q.2.2.2.2 with q | q | q | q
      · omega
      · omega
      · exact q.2
      · omega
  · rw [fin _ _ ?_ h01]
    · exact hQ
    · rw [← hbv, b2_1]
      refine ⟨fun q => ?_, fun q => ⟨hx.1, hx.2, hy.1, hy.2, Or.inr (Or.inr (Or.inr ⟨k3, q⟩))⟩⟩
      rcases q.2.2.2.2 with q | q | q | q
      · omega
      · omega
      · omega
      · exact q.2
  · have : bv = 1 := by
      rw [← hbv, b2_1]
      exact ⟨hx.1, hx.2, hy.1, hy.2, Or.inl (by omega)⟩
    rw [← this]
    exact hQ
theorem bel_out {s : Int → Int} {k x y : Int} (h : ¬ (s (1 + 5 * k + 1) ≤ x ∧ x ≤ s (1 + 5 * k + 3) ∧ s (1 + 5 * k + 2) ≤ y ∧ y ≤ s (1 + 5 * k + 4))) : bel s k x y = false := by
  unfold bel
  rw [decide_eq_false_iff_not]
  exact fun q => h ⟨q.1, q.2.1, q.2.2.1, q.2.2.2.1⟩
theorem pX1_columnsOf {d : Nat} {Q : Int64 → zMem → Prop} {μ : zMem} {s : Int → Int} {k a y : Int} (ha : 0 ≤ a) (ha' : a + 4 < 30) (hm : shIs μ a s k) (hs : shp s k) (hy : s (1 + 5 * k + 2) ≤ y ∧ y ≤ s (1 + 5 * k + 4)) (hQ : ∀ m, mb m (fun x => bel s k x y) → Q m μ) : kX1_columnsOf (d + 1) a y μ Q := by
  have hs' := hs
  obtain ⟨q0, q1, q2, q3, q4, q5, q6, q7⟩ := hs
  refine bX1_columnsOf ⟨by omega, by omega, by omega, by omega, by omega, by omega, by omega, by omega, ?_⟩
  rw [hm 1 (by omega) (by omega), hm 2 (by omega) (by omega), hm 3 (by omega) (by omega), hm 4 (by omega) (by omega)]
  have loop : ∀ (n x : Nat) (m : Int64), (x : Int) + n = s (1 + 5 * k + 3) + 1 → s (1 + 5 * k + 1) ≤ x → mbk m (fun c => bel s k c y) x → zX1_columnsOf_45 d Q a y (s (1 + 5 * k + 1)) (s (1 + 5 * k + 3)) (s (1 + 5 * k + 2)) (s (1 + 5 * k + 4)) m x μ := by
    intro n
    induction n with
    | zero =>
      intro x m hx hx1 hk
      refine bX1_columnsOf_45 ⟨zi _, zi _, fun _ => hQ m (fun c hc => ?_), fun h => absurd (by omega) h⟩
      rw [hk c hc]
      by_cases g : c < x
      · have : c < 48 := by omega
        simp [g, this]
      · have : bel s k (c : Int) y = false := bel_out (fun q => by omega)
        simp [this]
    | succ n ih =>
      intro x m hx hx1 hk
      refine bX1_columnsOf_45 ⟨zi _, zi _, fun h => absurd h (by omega), fun _ => ⟨zi _, zi _, by omega, by omega, ?_⟩⟩
      rw [hm 0 (by omega) (by omega)]
      refine pX1_belongs hs' ⟨hx1, by omega⟩ hy ⟨b2_in _, ?_⟩
      have := mbk_s (f := fun c : Nat => bel s k (c : Int) y) hk (by omega)
      have e : (if b2 (bel s k (x : Int) y = true) = 0 then m else m ||| ((1 : Int64) <<< ((Int32.ofInt (x : Int)).toInt64 &&& 63))) = m ||| (if b2 (bel s k (x : Int) y = true) = 0 then 0 else ((1 : Int64) <<< ((Int32.ofInt (x : Int)).toInt64 &&& 63))) := by
        by_cases g : b2 (bel s k (x : Int) y = true) = 0
        · rw [if_pos g, if_pos g]
          apply bit_ext
          intro c _
          rw [bit_or, bit_0, Bool.or_false]
        · rw [if_neg g, if_neg g]
      rw [e]
      exact ih (x + 1) _ (by omega) (by omega) this
  have h0 := loop (s (1 + 5 * k + 3) + 1 - s (1 + 5 * k + 1)).toNat (s (1 + 5 * k + 1)).toNat 0 (by omega) (by omega) (fun c hc => by
    rw [bit_0]
    by_cases g : c < (s (1 + 5 * k + 1)).toNat
    · have : bel s k (c : Int) y = false := bel_out (fun q => by omega)
      simp [this]
    · simp [g])
  rw [show (((s (1 + 5 * k + 1)).toNat : Nat) : Int) = s (1 + 5 * k + 1) by omega] at h0
  exact h0
/-- only the canvas of the present state changes -/
def cvs (μ μ' : zMem) : Prop := gD μ' = gD μ ∧ gR μ' = gR μ ∧ (∀ q, q ≠ 2 → q ≠ 3 → gI μ' q = gI μ q) ∧ ∀ q, q ≠ 4 → gL μ' q = gL μ q
theorem cvs.rf {μ : zMem} : cvs μ μ := ⟨rfl, rfl, fun _ _ _ => rfl, fun _ _ => rfl⟩
theorem cvs.tr {μ μ' μ'' : zMem} (h : cvs μ μ') (h' : cvs μ' μ'') : cvs μ μ'' := ⟨h'.1.trans h.1, h'.2.1.trans h.2.1, fun q a b => (h'.2.2.1 q a b).trans (h.2.2.1 q a b), fun q a => (h'.2.2.2 q a).trans (h.2.2.2 q a)⟩
theorem cvs.w {μ μ' : zMem} {p : Nat} {i v : Int} (h : cvs μ μ') (hp : p = 2 ∨ p = 3) : cvs μ (sI μ' p i v) := ⟨h.1, h.2.1, fun q a b => by rw [gI_sIn (by omega)]; exact h.2.2.1 q a b, h.2.2.2⟩
theorem cvs.l {μ μ' : zMem} {i : Int} {v : Int64} (h : cvs μ μ') : cvs μ (sL μ' 4 i v) := ⟨h.1, h.2.1, h.2.2.1, fun q a => by rw [gL_sLn a]; exact h.2.2.2 q a⟩
def FRE (μ : zMem) (p : Nat) (f : Int → Int → Bool) : Prop := ∀ y : Nat, y < 36 → mb (gL μ p y) (fun x => f x y)
theorem pX1_toggle {d : Nat} {Q : zMem → Prop} {μ : zMem} {s : Int → Int} {f : Int → Int → Bool} {k a : Int} (ha : 0 ≤ a) (ha' : a + 4 < 30) (hm : shIs μ a s k) (hs : shp s k) (hf : FRE μ 4 f)
    (hQ : ∀ μ', cvs μ μ' → gI μ' 3 = gI μ 3 → gI μ' 2 0 = gI μ 2 0 → gI μ' 2 1 = gI μ 2 1 + 1 → FRE μ' 4 (fun x y => f x y ^^ bel s k x y) → Q μ') : kX1_toggle (d + 2) a μ Q := by
  have hs' := hs
  obtain ⟨q0, q1, q2, q3, q4, q5, q6, q7⟩ := hs
  refine bX1_toggle ⟨by omega, by omega, ?_⟩
  rw [hm 2 (by omega) (by omega)]
  have loop : ∀ (n y : Nat) (ξ : zMem), (y : Int) + n = s (1 + 5 * k + 4) + 1 → s (1 + 5 * k + 2) ≤ y → cvs μ ξ → gI ξ = gI μ → (∀ j : Nat, j < 36 → mb (gL ξ 4 j) (fun x => if j < y then (f x j ^^ bel s k x j) else f x j)) → zX1_toggle_9 (d + 1) Q a y ξ := by
    intro n
    induction n with
    | zero =>
      intro y ξ hy hy1 h1 h2 h3
      have e4 : gI ξ 3 (a + 4) = s (1 + 5 * k + 4) := by rw [h2]; exact hm 4 (by omega) (by omega)
      refine bX1_toggle_9 ⟨by omega, by omega, zi _, by rw [e4]; exact zi _, fun _ => ?_, fun h => absurd (by rw [e4]; omega) h⟩
      refine hQ _ (h1.w (Or.inl rfl)) (by rw [gI_sIn (by decide), h2]) (by rw [gI_sIo (by decide), h2]) (by rw [gI_sIs, h2]) (fun j hj => mb_congr (h3 j hj) (fun x hx => ?_))
      by_cases g : j < y
      · rw [if_pos g]
      · rw [if_neg g]
        show f (x : Int) (j : Int) = (f x j ^^ bel s k x j)
        have : bel s k (x : Int) (j : Int) = false := bel_out (fun q => by omega)
        rw [this, Bool.xor_false]
    | succ n ih =>
      intro y ξ hy hy1 h1 h2 h3
      have e4 : gI ξ 3 (a + 4) = s (1 + 5 * k + 4) := by rw [h2]; exact hm 4 (by omega) (by omega)
      refine bX1_toggle_9 ⟨by omega, by omega, zi _, by rw [e4]; exact zi _, fun h => absurd h (by rw [e4]; omega), fun _ => ⟨by omega, by omega, ?_⟩⟩
      refine pX1_columnsOf ha ha' (fun j p q => by rw [h2]; exact hm j p q) hs' ⟨hy1, by omega⟩ ?_
      intro m mm
      refine ih (y + 1) _ (by omega) (by omega) h1.l h2 (fun j hj => ?_)
      by_cases g : j = y
      · subst g
        rw [gL_sL, if_pos ⟨rfl, rfl⟩]
        have h4 := h3 j hj
        refine mb_congr (mb_xor h4 mm) (fun x hx => ?_)
        rw [if_neg (by omega), if_pos (by omega)]
      · rw [gL_sL, if_neg (by omega)]
        refine mb_congr (h3 j hj) (fun x hx => ?_)
        by_cases g' : j < y
        · rw [if_pos g', if_pos (by omega)]
        · rw [if_neg g', if_neg (by omega)]
  have h0 := loop (s (1 + 5 * k + 4) + 1 - s (1 + 5 * k + 2)).toNat (s (1 + 5 * k + 2)).toNat μ (by omega) (by omega) cvs.rf rfl (fun j hj => mb_congr (hf j hj) (fun x hx => by
    by_cases g : j < (s (1 + 5 * k + 2)).toNat
    · rw [if_pos g, bel_out (fun q => by omega), Bool.xor_false]
    · rw [if_neg g]))
  rw [show (((s (1 + 5 * k + 2)).toNat : Nat) : Int) = s (1 + 5 * k + 2) by omega] at h0
  exact h0
