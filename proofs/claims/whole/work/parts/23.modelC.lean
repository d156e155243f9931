/-! the model's plain calls -/
theorem pin {d : Nat} {x a b : Int} {μ : zMem} {A B : zMem → Prop} (hx : zIn x) (ha : zIn a) (hb : zIn b) (hA : ¬ (a ≤ x ∧ x ≤ b) → A μ) (hB : a ≤ x ∧ x ≤ b → B μ) : kX8_in d x a b μ (fun r μ1 => zIn r ∧ ((r = 0 → A μ1) ∧ (¬ (r = 0) → B μ1))) :=
  pX8_in hx ha hb ⟨b2_in _, fun h => hA (b2_0.mp h), fun h => hB (Classical.not_not.mp (fun q => h (b2_0.mpr q)))⟩
theorem pis {d : Nat} {k : Int} {μ : zMem} {s : Int → Int} {A B : zMem → Prop} (hr : rowIs μ s) (hw : wf s) (hk : zIn k) (hA : ¬ (0 ≤ k ∧ k < s 0) → A μ) (hB : 0 ≤ k ∧ k < s 0 → B μ) : kX8_isShape (d + 1) k μ (fun r μ1 => zIn r ∧ ((r = 0 → A μ1) ∧ (¬ (r = 0) → B μ1))) :=
  pX8_isShape hr hw hk ⟨b2_in _, fun h => hA (b2_0.mp h), fun h => hB (Classical.not_not.mp (fun q => h (b2_0.mpr q)))⟩
def fu (s : Int → Int) (i v : Int) : Int → Int := fun j => if j = i then v else s j
theorem fu_s {s : Int → Int} {i v : Int} : fu s i v i = v := by simp [fu]
theorem fu_o {s : Int → Int} {i j v : Int} (h : j ≠ i) : fu s i v j = s j := by simp [fu, h]
theorem rowIs.upd {μ : zMem} {s : Int → Int} {i v : Int} (h : rowIs μ s) : rowIs (sI μ 55 i v) (fu s i v) := by
  intro j a b
  rw [gI_sI]
  unfold fu
  by_cases e : j = i
  · simp [e]
  · simp [e, h j a b]
/-- a recorded call of the model: block 0 is s' then, the history has one state more -/
def mop (μ μ' : zMem) (s' : Int → Int) : Prop := clsame μ μ' ∧ gI μ' 54 1 = (if gI μ 54 1 = 4 then 4 else gI μ 54 1 + 1) ∧ gI μ' 54 15 = gI μ 54 15 ∧ gI μ' 63 = gI μ 63 ∧ rowIs μ' s' ∧
  (∀ i, 0 ≤ i → i < 257 → gI μ' 55 (257 * (if gI μ 54 1 = 4 then 4 else gI μ 54 1 + 1) + i) = gI μ 55 i) ∧
  (∀ j i, 1 ≤ j → j < (if gI μ 54 1 = 4 then 4 else gI μ 54 1 + 1) → 0 ≤ i → i < 257 → gI μ' 55 (257 * j + i) = gI μ 55 (257 * (if gI μ 54 1 = 4 then j + 1 else j) + i))
theorem mop_rec {μ μ' : zMem} {s : Int → Int} (h : recP μ μ') (hr : rowIs μ s) : mop μ μ' s :=
  ⟨h.1, h.2.2.2.2.1, h.2.2.2.1 15 (by omega), h.2.1 63 (by omega) (by omega), fun i a b => (h.2.2.2.2.2.1 i a b).trans (hr i a b), h.2.2.2.2.2.2.1, h.2.2.2.2.2.2.2⟩
theorem mop.sI {μ μ' : zMem} {s : Int → Int} {i v : Int} (h : mop μ μ' s) (k0 : 0 ≤ gI μ 54 1) (i1 : i < 257) : mop μ (sI μ' 55 i v) (fu s i v) := by
  obtain ⟨h1, h2, h3, h4, h5, h6, h7⟩ := h
  refine ⟨h1.sI (by omega), by rw [gI_sIn (by decide)]; exact h2, by rw [gI_sIn (by decide)]; exact h3, by rw [gI_sIn (by decide)]; exact h4, h5.upd, fun j a b => ?_, fun j x a b c e => ?_⟩
  · rw [gI_sIo (by split <;> omega)]
    exact h6 j a b
  · rw [gI_sIo (by omega)]
    exact h7 j x a b c e
theorem mop.msc {μ μ' μ'' : zMem} {s : Int → Int} (h : mop μ μ' s) (h' : msc μ' μ'') : mop μ μ'' s := by
  obtain ⟨h1, h2, h3, h4, h5, h6, h7⟩ := h
  obtain ⟨m1, m2, m3, m4, m5⟩ := h'
  exact ⟨h1.tr m1, m4.trans h2, m5.trans h3, m3.trans h4, fun i a b => by rw [m2]; exact h5 i a b, fun i a b => by rw [m2]; exact h6 i a b, fun j i a b c e => by rw [m2]; exact h7 j i a b c e⟩
theorem mop.row {μ μ' : zMem} {s : Int → Int} (h : mop μ μ' s) : rowIs μ' s := h.2.2.2.2.1
theorem mop.at {μ μ' : zMem} {s : Int → Int} (h : mop μ μ' s) {i : Int} (a : 0 ≤ i) (b : i < 257) : gI μ' 55 i = s i := h.row i a b
theorem mop.congr {μ μ' : zMem} {s s' : Int → Int} (h : mop μ μ' s) (e : ∀ i, 0 ≤ i → i < 257 → s i = s' i) : mop μ μ' s' := ⟨h.1, h.2.1, h.2.2.1, h.2.2.2.1, fun i a b => (h.row i a b).trans (e i a b), h.2.2.2.2.2⟩
def addSh (s : Int → Int) (k x1 y1 x2 y2 : Int) : Int → Int := fu (fu (fu (fu (fu (fu s (1 + 5 * s 0) k) (1 + 5 * s 0 + 1) x1) (1 + 5 * s 0 + 2) y1) (1 + 5 * s 0 + 3) x2) (1 + 5 * s 0 + 4) y2) 0 (s 0 + 1)
def okSh (k x1 y1 x2 y2 : Int) : Prop := (0 ≤ k ∧ k ≤ 3) ∧ (0 ≤ x1 ∧ x1 ≤ 47) ∧ (0 ≤ y1 ∧ y1 ≤ 35) ∧ (x1 ≤ x2 ∧ x2 ≤ 47) ∧ (y1 ≤ y2 ∧ y2 ≤ 35)
/-- what a recorded call starts from -/
def mpre (μ : zMem) (s : Int → Int) : Prop := rowIs μ s ∧ wf s ∧ 0 ≤ gI μ 54 1 ∧ gI μ 54 1 ≤ 4
theorem pX8_isFree {d : Nat} {Q : Int → zMem → Prop} {μ : zMem} {s : Int → Int} {x1 x2 : Int} (h : mpre μ s) (h1 : zIn x1) (h2 : zIn x2) (hbad : ¬ ((0 ≤ x1 ∧ x1 ≤ 47) ∧ (0 ≤ x2 ∧ x2 ≤ 35)) → Q (-3) μ) (hok : (0 ≤ x1 ∧ x1 ≤ 47) ∧ (0 ≤ x2 ∧ x2 ≤ 35) → Q (b2 (freeB s x1 x2 = true)) μ) : kX8_isFree (d + 3) x1 x2 μ Q := by
  refine bX8_isFree ?_
  refine pin h1 (zi _) (zi _) (fun c => hbad (fun q => c q.1)) (fun c1 => ?_)
  refine pin h2 (zi _) (zi _) (fun c => hbad (fun q => c q.2)) (fun c2 => ?_)
  refine pX8_free h.1 h.2.1 h1 h2 ⟨b2_in _, ?_⟩
  rw [b2_ite]
  exact hok ⟨c1, c2⟩
theorem pX8_addShape {d : Nat} {Q : Int → zMem → Prop} {μ : zMem} {s : Int → Int} {x1 x2 x3 x4 x5 : Int} (h : mpre μ s) (h1 : zIn x1) (h2 : zIn x2) (h3 : zIn x3) (h4 : zIn x4) (h5 : zIn x5)
    (hbad : ¬ okSh x1 x2 x3 x4 x5 → Q (-3) μ) (hfull : okSh x1 x2 x3 x4 x5 → s 0 = 6 → Q (-5) μ) (hok : okSh x1 x2 x3 x4 x5 → s 0 < 6 → ∀ μ', mop μ μ' (addSh s x1 x2 x3 x4 x5) → Q (s 0) μ') : kX8_addShape (d + 2) x1 x2 x3 x4 x5 μ Q := by
  obtain ⟨hr, hw, k0, k1⟩ := h
  have hns := hw.1
  refine bX8_addShape ?_
  refine pin h1 (zi _) (zi _) (fun c => hbad (fun q => c q.1)) (fun c1 => ?_)
  refine pin h2 (zi _) (zi _) (fun c => hbad (fun q => c q.2.1)) (fun c2 => ?_)
  refine pin h3 (zi _) (zi _) (fun c => hbad (fun q => c q.2.2.1)) (fun c3 => ?_)
  refine pin h4 (zi _) (zi _) (fun c => hbad (fun q => c q.2.2.2.1)) (fun c4 => ?_)
  refine pin h5 (zi _) (zi _) (fun c => hbad (fun q => c q.2.2.2.2)) (fun c5 => ?_)
  have ok : okSh x1 x2 x3 x4 x5 := ⟨c1, c2, c3, c4, c5⟩
  rw [hr 0 (by omega) (by omega)]
  refine ⟨zi _, fun e => hfull ok e, fun e => ?_⟩
  refine pX8_records k0 k1 (fun ν hν => ?_)
  have m0 := mop_rec hν hr
  rw [m0.at (i := 0) (by omega) (by omega)]
  refine ⟨by omega, by omega, by omega, by omega, by omega, by omega, by omega, by omega, by omega, by omega, ?_⟩
  have m1 := ((((m0.sI (i := 1 + 5 * s 0) (v := x1) k0 (by omega)).sI (i := 1 + 5 * s 0 + 1) (v := x2) k0 (by omega)).sI (i := 1 + 5 * s 0 + 2) (v := x3) k0 (by omega)).sI (i := 1 + 5 * s 0 + 3) (v := x4) k0 (by omega)).sI (i := 1 + 5 * s 0 + 4) (v := x5) k0 (by omega)
  rw [m1.at (i := 0) (by omega) (by omega)]
  have e0 : fu (fu (fu (fu (fu s (1 + 5 * s 0) x1) (1 + 5 * s 0 + 1) x2) (1 + 5 * s 0 + 2) x3) (1 + 5 * s 0 + 3) x4) (1 + 5 * s 0 + 4) x5 0 = s 0 := by
    rw [fu_o (by omega), fu_o (by omega), fu_o (by omega), fu_o (by omega), fu_o (by omega)]
  rw [e0, gI_sIs, show s 0 + 1 - 1 = s 0 by omega]
  exact hok ok (by omega) _ (m1.sI (i := 0) (v := s 0 + 1) k0 (by omega))
def movSh (s : Int → Int) (k dx dy : Int) : Int → Int := fu (fu (fu (fu s (1 + 5 * k + 1) (s (1 + 5 * k + 1) + dx)) (1 + 5 * k + 2) (s (1 + 5 * k + 2) + dy)) (1 + 5 * k + 3) (s (1 + 5 * k + 3) + dx)) (1 + 5 * k + 4) (s (1 + 5 * k + 4) + dy)
def okMv (s : Int → Int) (k dx dy : Int) : Prop := (-47 ≤ dx ∧ dx ≤ 47) ∧ (-35 ≤ dy ∧ dy ≤ 35) ∧ (0 ≤ s (1 + 5 * k + 1) + dx ∧ s (1 + 5 * k + 1) + dx ≤ 47) ∧ (0 ≤ s (1 + 5 * k + 3) + dx ∧ s (1 + 5 * k + 3) + dx ≤ 47) ∧ (0 ≤ s (1 + 5 * k + 2) + dy ∧ s (1 + 5 * k + 2) + dy ≤ 35) ∧ (0 ≤ s (1 + 5 * k + 4) + dy ∧ s (1 + 5 * k + 4) + dy ≤ 35)
theorem wf_mov {s : Int → Int} {k dx dy : Int} (hw : wf s) (k0 : 0 ≤ k) (k1 : k < s 0) (ok : okMv s k dx dy) : wf (movSh s k dx dy) := by
  have hns := hw.1
  have hk := hw.2.1 k k0 k1
  obtain ⟨o1, o2, o3, o4, o5, o6⟩ := ok
  have ho : ∀ i, (i < 1 + 5 * k + 1 ∨ 1 + 5 * k + 4 < i) → movSh s k dx dy i = s i := fun i hi => by
    unfold movSh
    rw [fu_o (by omega), fu_o (by omega), fu_o (by omega), fu_o (by omega)]
  have g1 : movSh s k dx dy (1 + 5 * k + 1) = s (1 + 5 * k + 1) + dx := by
    unfold movSh
    rw [fu_o (by omega), fu_o (by omega), fu_o (by omega), fu_s]
  have g2 : movSh s k dx dy (1 + 5 * k + 2) = s (1 + 5 * k + 2) + dy := by
    unfold movSh
    rw [fu_o (by omega), fu_o (by omega), fu_s]
  have g3 : movSh s k dx dy (1 + 5 * k + 3) = s (1 + 5 * k + 3) + dx := by
    unfold movSh
    rw [fu_o (by omega), fu_s]
  have g4 : movSh s k dx dy (1 + 5 * k + 4) = s (1 + 5 * k + 4) + dy := by
    unfold movSh
    rw [fu_s]
  have e0 : movSh s k dx dy 0 = s 0 := ho 0 (by omega)
  refine ⟨by rw [e0]; exact hns, fun j j0 j1 => ?_, ?_⟩
  · rw [e0] at j1
    by_cases e : j = k
    · subst e
      rw [g1, g2, g3, g4, ho (1 + 5 * j + 0) (by omega)]
      omega
    · have := hw.2.1 j j0 j1
      rw [ho (1 + 5 * j + 0) (by omega), ho (1 + 5 * j + 1) (by omega), ho (1 + 5 * j + 2) (by omega), ho (1 + 5 * j + 3) (by omega), ho (1 + 5 * j + 4) (by omega)]
      exact this
  · have hr := hw.2.2
    rw [ho 31 (by omega), ho 74 (by omega), ho 75 (by omega), ho 76 (by omega), ho 77 (by omega), ho 78 (by omega), ho 79 (by omega), ho 80 (by omega), ho 81 (by omega)]
    refine ⟨hr.1, fun j j0 j1 => ?_, hr.2.2⟩
    rw [ho (32 + 3 * j + 0) (by omega), ho (32 + 3 * j + 1) (by omega), ho (32 + 3 * j + 2) (by omega)]
    exact hr.2.1 j j0 j1
theorem pX8_moveShape {d : Nat} {Q : Int → zMem → Prop} {μ : zMem} {s : Int → Int} {x1 x2 x3 : Int} (h : mpre μ s) (h1 : zIn x1) (h2 : zIn x2) (h3 : zIn x3)
    (hidx : ¬ (0 ≤ x1 ∧ x1 < s 0) → Q (-2) μ) (hbad : 0 ≤ x1 ∧ x1 < s 0 → ¬ okMv s x1 x2 x3 → Q (-3) μ) (hok : 0 ≤ x1 ∧ x1 < s 0 → okMv s x1 x2 x3 → ∀ μ', mop μ μ' (movSh s x1 x2 x3) → Q (fsum (movSh s x1 x2 x3) 48) μ') : kX8_moveShape (d + 4) x1 x2 x3 μ Q := by
  obtain ⟨hr, hw, k0, k1⟩ := h
  have hns := hw.1
  refine bX8_moveShape ?_
  refine pis hr hw h1 hidx (fun c1 => ?_)
  have hk := hw.2.1 x1 c1.1 c1.2
  refine pin h2 (zi _) (zi _) (fun c => hbad c1 (fun q => c q.1)) (fun c2 => ?_)
  refine pin h3 (zi _) (zi _) (fun c => hbad c1 (fun q => c q.2.1)) (fun c3 => ?_)
  refine pX8_shapeOf hr c1.1 (by omega) (by omega) (by omega) ?_
  refine pin (zi _) (zi _) (zi _) (fun c => hbad c1 (fun q => c q.2.2.1)) (fun c4 => ?_)
  refine pX8_shapeOf hr c1.1 (by omega) (by omega) (by omega) ?_
  refine pin (zi _) (zi _) (zi _) (fun c => hbad c1 (fun q => c q.2.2.2.1)) (fun c5 => ?_)
  refine pX8_shapeOf hr c1.1 (by omega) (by omega) (by omega) ?_
  refine pin (zi _) (zi _) (zi _) (fun c => hbad c1 (fun q => c q.2.2.2.2.1)) (fun c6 => ?_)
  refine pX8_shapeOf hr c1.1 (by omega) (by omega) (by omega) ?_
  refine pin (zi _) (zi _) (zi _) (fun c => hbad c1 (fun q => c q.2.2.2.2.2)) (fun c7 => ?_)
  have ok : okMv s x1 x2 x3 := ⟨c2, c3, c4, c5, c6, c7⟩
  refine pX8_records k0 k1 (fun ν hν => ?_)
  have m0 := mop_rec hν hr
  refine ⟨by omega, by omega, by omega, by omega, by omega, by omega, by omega, by omega, ?_⟩
  rw [m0.at (i := 1 + 5 * x1 + 1) (by omega) (by omega)]
  have m1 := m0.sI (i := 1 + 5 * x1 + 1) (v := s (1 + 5 * x1 + 1) + x2) k0 (by omega)
  rw [m1.at (i := 1 + 5 * x1 + 2) (by omega) (by omega), fu_o (by omega)]
  have m2 := m1.sI (i := 1 + 5 * x1 + 2) (v := s (1 + 5 * x1 + 2) + x3) k0 (by omega)
  rw [m2.at (i := 1 + 5 * x1 + 3) (by omega) (by omega), fu_o (by omega), fu_o (by omega)]
  have m3 := m2.sI (i := 1 + 5 * x1 + 3) (v := s (1 + 5 * x1 + 3) + x2) k0 (by omega)
  rw [m3.at (i := 1 + 5 * x1 + 4) (by omega) (by omega), fu_o (by omega), fu_o (by omega), fu_o (by omega)]
  have m4 := m3.sI (i := 1 + 5 * x1 + 4) (v := s (1 + 5 * x1 + 4) + x3) k0 (by omega)
  refine pX8_freeCells m4.row (wf_mov hw c1.1 c1.2 ok) ?_
  exact hok c1 ok _ m4
def remSh (s : Int → Int) (k : Int) : Int → Int := fun i => if i = 0 then s 0 - 1 else if 1 + 5 * k ≤ i ∧ i < 1 + 5 * (s 0 - 1) then s (i + 5) else s i
theorem pX8_removeShape {d : Nat} {Q : Int → zMem → Prop} {μ : zMem} {s : Int → Int} {x1 : Int} (h : mpre μ s) (h1 : zIn x1)
    (hidx : ¬ (0 ≤ x1 ∧ x1 < s 0) → Q (-2) μ) (hok : 0 ≤ x1 ∧ x1 < s 0 → ∀ μ', mop μ μ' (remSh s x1) → Q (s 0 - 1) μ') : kX8_removeShape (d + 2) x1 μ Q := by
  obtain ⟨hr, hw, k0, k1⟩ := h
  have hns := hw.1
  refine bX8_removeShape ?_
  refine pis hr hw h1 hidx (fun c1 => ?_)
  refine pX8_records k0 k1 (fun ν hν => ?_)
  have m0 := mop_rec hν hr
  rw [m0.at (i := 0) (by omega) (by omega)]
  have m1 := m0.sI (i := 0) (v := s 0 - 1) k0 (by omega)
  have loop : ∀ (m : Nat) (x : Int) (ξ : zMem), (x + m = 1 + 5 * (s 0 - 1) ∨ (m = 0 ∧ 1 + 5 * (s 0 - 1) ≤ x ∧ x ≤ 31)) → 1 + 5 * x1 ≤ x → mop μ ξ (fun i => if i = 0 then s 0 - 1 else if 1 + 5 * x1 ≤ i ∧ i < 1 + 5 * (s 0 - 1) ∧ i < x then s (i + 5) else s i) → zX8_removeShape_31 (d + 1) Q x ξ := by
    intro m
    induction m with
    | zero =>
      intro x ξ hx hx2 hm
      refine bX8_removeShape_31 ?_
      rw [hm.at (i := 0) (by omega) (by omega)]
      simp only [if_true]
      refine ⟨zi _ (by omega), zi _, fun _ => ?_, fun h => absurd (by omega) h⟩
      refine hok c1 ξ (hm.congr (fun i a b => ?_))
      unfold remSh
      by_cases e : i = 0
      · simp [e]
      · rw [if_neg e, if_neg e]
        by_cases e2 : 1 + 5 * x1 ≤ i ∧ i < 1 + 5 * (s 0 - 1)
        · rw [if_pos e2, if_pos (by omega)]
        · rw [if_neg e2, if_neg (by omega)]
    | succ m ih =>
      intro x ξ hx hx2 hm
      refine bX8_removeShape_31 ?_
      rw [hm.at (i := 0) (by omega) (by omega)]
      simp only [if_true]
      refine ⟨zi _, zi _, fun h => absurd h (by omega), fun _ => ⟨by omega, by omega, by omega, by omega, ?_⟩⟩
      rw [hm.at (i := x + 5) (by omega) (by omega), if_neg (by omega), if_neg (by omega)]
      refine ih (x + 1) _ (by omega) (by omega) ((hm.sI k0 (by omega)).congr (fun i a b => ?_))
      by_cases e : i = x
      · subst e
        rw [fu_s, if_neg (by omega), if_pos (by omega)]
      · rw [fu_o e]
        by_cases e0 : i = 0
        · simp [e0]
        · rw [if_neg e0, if_neg e0]
          by_cases e2 : 1 + 5 * x1 ≤ i ∧ i < 1 + 5 * (s 0 - 1) ∧ i < x
          · rw [if_pos e2, if_pos (by omega)]
          · rw [if_neg e2, if_neg (by omega)]
  refine loop (1 + 5 * (s 0 - 1) - (1 + 5 * x1)).toNat (1 + 5 * x1) _ (by omega) (by omega) (m1.congr (fun i a b => ?_))
  unfold fu
  by_cases e : i = 0
  · simp [e]
  · rw [if_neg e, if_neg e, if_neg (by omega)]
theorem pX8_of {d : Nat} {Q : Int → zMem → Prop} {μ : zMem} {s : Int → Int} {k w : Int} (hr : rowIs μ s) (k0 : 0 ≤ k) (k1 : k < 14) (w0 : 0 ≤ w) (w1 : w < 3) (hQ : Q (s (32 + 3 * k + w)) μ) : kX8_of d k w μ Q := by
  refine bX8_of ⟨by omega, by omega, ?_⟩
  rw [hr _ (by omega) (by omega)]
  exact hQ
theorem piw {d : Nat} {k : Int} {μ : zMem} {s : Int → Int} {A B : zMem → Prop} (hr : rowIs μ s) (hw : wf s) (hk : zIn k) (hA : ¬ (0 ≤ k ∧ k < s 31) → A μ) (hB : 0 ≤ k ∧ k < s 31 → B μ) : kX8_isWord (d + 1) k μ (fun r μ1 => zIn r ∧ ((r = 0 → A μ1) ∧ (¬ (r = 0) → B μ1))) := by
  have hns := hw.2.2.1
  refine bX8_isWord ?_
  rw [hr 31 (by omega) (by omega)]
  refine pX8_in hk (zi _) (zi _) ⟨b2_01 _, b2_in _, fun h => hA ?_, fun h => hB ?_⟩
  · rw [b2_0] at h
    omega
  · rw [b2_0, Classical.not_not] at h
    omega
def putW (s : Int → Int) (k l w m : Int) : Int → Int := fu (fu (fu s (32 + 3 * k) l) (32 + 3 * k + 1) w) (32 + 3 * k + 2) m
theorem pX8_becomes {d : Nat} {Q : zMem → Prop} {μ μ0 : zMem} {s : Int → Int} {k l w m : Int} (k0' : 0 ≤ gI μ0 54 1) (hm : mop μ0 μ s) (k0 : 0 ≤ k) (k1 : k < 14) (hQ : ∀ μ', mop μ0 μ' (putW s k l w m) → Q μ') : kX8_becomes d k l w m μ Q :=
  bX8_becomes ⟨by omega, by omega, by omega, by omega, by omega, by omega, hQ _ (((hm.sI k0' (by omega)).sI k0' (by omega)).sI k0' (by omega))⟩
theorem pX8_addWord {d : Nat} {Q : Int → zMem → Prop} {μ : zMem} {s : Int → Int} {x1 x2 : Int} (h : mpre μ s) (h1 : zIn x1) (h2 : zIn x2)
    (hbad : ¬ ((1 ≤ x1 ∧ x1 ≤ 12) ∧ (1 ≤ x2 ∧ x2 ≤ 3)) → Q (-3) μ) (hfull : (1 ≤ x1 ∧ x1 ≤ 12) ∧ (1 ≤ x2 ∧ x2 ≤ 3) → s 31 = 14 → Q (-5) μ)
    (hok : (1 ≤ x1 ∧ x1 ≤ 12) ∧ (1 ≤ x2 ∧ x2 ≤ 3) → s 31 < 14 → ∀ μ', mop μ μ' (fu (putW s (s 31) x1 x2 0) 31 (s 31 + 1)) → Q (s 31) μ') : kX8_addWord (d + 2) x1 x2 μ Q := by
  obtain ⟨hr, hw, k0, k1⟩ := h
  have hns := hw.2.2.1
  refine bX8_addWord ?_
  refine pin h1 (zi _) (zi _) (fun c => hbad (fun q => c q.1)) (fun c1 => ?_)
  refine pin h2 (zi _) (zi _) (fun c => hbad (fun q => c q.2)) (fun c2 => ?_)
  rw [hr 31 (by omega) (by omega)]
  refine ⟨zi _, fun e => hfull ⟨c1, c2⟩ e, fun e => ?_⟩
  refine pX8_records k0 k1 (fun ν hν => ?_)
  have m0 := mop_rec hν hr
  rw [m0.at (i := 31) (by omega) (by omega)]
  refine pX8_becomes k0 m0 (by omega) (by omega) (fun ξ m1 => ?_)
  rw [m1.at (i := 31) (by omega) (by omega)]
  have e0 : putW s (s 31) x1 x2 0 31 = s 31 := by
    unfold putW
    rw [fu_o (by omega), fu_o (by omega), fu_o (by omega)]
  rw [e0, gI_sIs, show s 31 + 1 - 1 = s 31 by omega]
  exact hok ⟨c1, c2⟩ (by omega) _ (m1.sI k0 (by omega))
theorem pX8_setWord {d : Nat} {Q : Int → zMem → Prop} {μ : zMem} {s : Int → Int} {x1 x2 x3 x4 : Int} (h : mpre μ s) (h1 : zIn x1) (h2 : zIn x2) (h3 : zIn x3) (h4 : zIn x4)
    (hidx : ¬ (0 ≤ x1 ∧ x1 < s 31) → Q (-2) μ) (hbad : 0 ≤ x1 ∧ x1 < s 31 → ¬ ((1 ≤ x2 ∧ x2 ≤ 12) ∧ (1 ≤ x3 ∧ x3 ≤ 3)) → Q (-3) μ)
    (hok : 0 ≤ x1 ∧ x1 < s 31 → (1 ≤ x2 ∧ x2 ≤ 12) ∧ (1 ≤ x3 ∧ x3 ≤ 3) → ∀ μ', mop μ μ' (putW s x1 x2 x3 (if x4 = 0 then 0 else 1)) → Q (s (32 + 3 * x1 + 0)) μ') : kX8_setWord (d + 2) x1 x2 x3 x4 μ Q := by
  obtain ⟨hr, hw, k0, k1⟩ := h
  have hns := hw.2.2.1
  refine bX8_setWord ?_
  refine piw hr hw h1 hidx (fun c1 => ?_)
  refine pin h2 (zi _) (zi _) (fun c => hbad c1 (fun q => c q.1)) (fun c2 => ?_)
  refine pin h3 (zi _) (zi _) (fun c => hbad c1 (fun q => c q.2)) (fun c3 => ?_)
  refine pX8_records k0 k1 (fun ν hν => ?_)
  have m0 := mop_rec hν hr
  refine pX8_of m0.row c1.1 (by omega) (by omega) (by omega) ⟨h4, ?_⟩
  exact pX8_becomes k0 m0 (by omega) (by omega) (fun ξ m1 => hok c1 ⟨c2, c3⟩ ξ m1)
theorem pX8_clearWords {d : Nat} {Q : Int → zMem → Prop} {μ : zMem} {s : Int → Int} (h : mpre μ s) (hok : ∀ μ', mop μ μ' (fu s 31 0) → Q (s 31) μ') : kX8_clearWords (d + 2) μ Q := by
  obtain ⟨hr, hw, k0, k1⟩ := h
  refine bX8_clearWords ?_
  refine pX8_records k0 k1 (fun ν hν => ?_)
  have m0 := mop_rec hν hr
  rw [m0.at (i := 31) (by omega) (by omega)]
  exact hok _ (m0.sI k0 (by omega))
theorem pX8_setSizes {d : Nat} {Q : Int → zMem → Prop} {μ : zMem} {s : Int → Int} {x1 x2 x3 x4 : Int} (h : mpre μ s) (h1 : zIn x1) (h2 : zIn x2) (h3 : zIn x3) (h4 : zIn x4)
    (hbad : ¬ ((0 ≤ x1 ∧ x1 ≤ 4) ∧ (1 ≤ x2 ∧ x2 ≤ 20) ∧ (1 ≤ x3 ∧ x3 ≤ 20) ∧ (1 ≤ x4 ∧ x4 ≤ 20)) → Q (-3) μ)
    (hok : (0 ≤ x1 ∧ x1 ≤ 4) ∧ (1 ≤ x2 ∧ x2 ≤ 20) ∧ (1 ≤ x3 ∧ x3 ≤ 20) ∧ (1 ≤ x4 ∧ x4 ≤ 20) → ∀ μ', mop μ μ' (fu (fu (fu (fu s 74 x1) 75 x2) 76 x3) 77 x4) → Q (s 74) μ') : kX8_setSizes (d + 2) x1 x2 x3 x4 μ Q := by
  obtain ⟨hr, hw, k0, k1⟩ := h
  refine bX8_setSizes ?_
  refine pin h1 (zi _) (zi _) (fun c => hbad (fun q => c q.1)) (fun c1 => ?_)
  refine pin h2 (zi _) (zi _) (fun c => hbad (fun q => c q.2.1)) (fun c2 => ?_)
  refine pin h3 (zi _) (zi _) (fun c => hbad (fun q => c q.2.2.1)) (fun c3 => ?_)
  refine pin h4 (zi _) (zi _) (fun c => hbad (fun q => c q.2.2.2)) (fun c4 => ?_)
  refine pX8_records k0 k1 (fun ν hν => ?_)
  have m0 := mop_rec hν hr
  rw [m0.at (i := 74) (by omega) (by omega)]
  exact hok ⟨c1, c2, c3, c4⟩ _ ((((m0.sI k0 (by omega)).sI k0 (by omega)).sI k0 (by omega)).sI k0 (by omega))
theorem pX8_setLines {d : Nat} {Q : Int → zMem → Prop} {μ : zMem} {s : Int → Int} {x1 x2 x3 x4 : Int} (h : mpre μ s) (h1 : zIn x1) (h2 : zIn x2) (h3 : zIn x3) (h4 : zIn x4)
    (hbad : ¬ ((0 ≤ x1 ∧ x1 ≤ 35) ∧ (0 ≤ x2 ∧ x2 ≤ 5) ∧ (0 ≤ x3 ∧ x3 ≤ 2) ∧ (1 ≤ x4 ∧ x4 ≤ 9)) → Q (-3) μ)
    (hok : (0 ≤ x1 ∧ x1 ≤ 35) ∧ (0 ≤ x2 ∧ x2 ≤ 5) ∧ (0 ≤ x3 ∧ x3 ≤ 2) ∧ (1 ≤ x4 ∧ x4 ≤ 9) → ∀ μ', mop μ μ' (fu (fu (fu (fu s 78 x1) 79 x2) 80 x3) 81 x4) → Q (s 78) μ') : kX8_setLines (d + 2) x1 x2 x3 x4 μ Q := by
  obtain ⟨hr, hw, k0, k1⟩ := h
  refine bX8_setLines ?_
  refine pin h1 (zi _) (zi _) (fun c => hbad (fun q => c q.1)) (fun c1 => ?_)
  refine pin h2 (zi _) (zi _) (fun c => hbad (fun q => c q.2.1)) (fun c2 => ?_)
  refine pin h3 (zi _) (zi _) (fun c => hbad (fun q => c q.2.2.1)) (fun c3 => ?_)
  refine pin h4 (zi _) (zi _) (fun c => hbad (fun q => c q.2.2.2)) (fun c4 => ?_)
  refine pX8_records k0 k1 (fun ν hν => ?_)
  have m0 := mop_rec hν hr
  rw [m0.at (i := 78) (by omega) (by omega)]
  exact hok ⟨c1, c2, c3, c4⟩ _ ((((m0.sI k0 (by omega)).sI k0 (by omega)).sI k0 (by omega)).sI k0 (by omega))
def countV (s : Int → Int) (w : Int) : Int := if ¬ (0 ≤ w ∧ w ≤ 11) then -3 else if w = 0 then s 0 else if w = 1 then s 31 else if w < 10 then s (72 + w) else if w = 10 then fsum s 48 else s 82
theorem pX8_count {d : Nat} {Q : Int → zMem → Prop} {μ : zMem} {s : Int → Int} {w : Int} (hr : rowIs μ s) (hw : wf s) (h1 : zIn w) (hQ : Q (countV s w) μ) : kX8_count (d + 4) w μ Q := by
  unfold countV at hQ
  refine bX8_count ?_
  refine pin h1 (zi _) (zi _) (fun c => by rw [if_pos c] at hQ; exact hQ) (fun c1 => ?_)
  rw [if_neg (fun q => q c1)] at hQ
  refine ⟨h1, fun e => ?_, fun e0 => ⟨fun e => ?_, fun e1 => ⟨fun e => ⟨fun e10 => ?_, fun e11 => ?_⟩, fun e => ⟨by omega, by omega, ?_⟩⟩⟩⟩
  · rw [if_pos e] at hQ
    rw [hr 0 (by omega) (by omega)]
    exact hQ
  · rw [if_neg e0, if_pos e] at hQ
    rw [hr 31 (by omega) (by omega)]
    exact hQ
  · rw [if_neg e0, if_neg e1, if_neg (by omega), if_pos e10] at hQ
    exact pX8_freeCells hr hw hQ
  · rw [if_neg e0, if_neg e1, if_neg (by omega), if_neg e11] at hQ
    rw [hr 82 (by omega) (by omega)]
    exact hQ
  · rw [if_neg e0, if_neg e1, if_pos (by omega)] at hQ
    rw [hr _ (by omega) (by omega), show 74 + w - 2 = 72 + w by omega]
    exact hQ
theorem pX8_word {d : Nat} {Q : Int → zMem → Prop} {μ : zMem} {s : Int → Int} {x1 x2 : Int} (hr : rowIs μ s) (hw : wf s) (h1 : zIn x1) (h2 : zIn x2)
    (hidx : ¬ (0 ≤ x1 ∧ x1 < s 31) → Q (-2) μ) (hbad : 0 ≤ x1 ∧ x1 < s 31 → ¬ (0 ≤ x2 ∧ x2 ≤ 2) → Q (-3) μ) (hok : 0 ≤ x1 ∧ x1 < s 31 → 0 ≤ x2 ∧ x2 ≤ 2 → Q (s (32 + 3 * x1 + x2)) μ) : kX8_word (d + 2) x1 x2 μ Q := by
  have hns := hw.2.2.1
  refine bX8_word ?_
  refine piw hr hw h1 hidx (fun c1 => ?_)
  refine pin h2 (zi _) (zi _) (hbad c1) (fun c2 => ?_)
  exact pX8_of hr c1.1 (by omega) c2.1 (by omega) (hok c1 c2)
def wfP (s : Int → Int) : Prop := (s 82 = 0 ∨ s 82 = 1) ∧ (s 82 = 1 → (1 ≤ s 84 ∧ s 84 ≤ 14) ∧ (1 ≤ s 256 ∧ s 256 ≤ 14) ∧ (∀ i, 0 ≤ i → i < 5 → zIn (s (83 + i))) ∧ (∀ i, 0 ≤ i → i < 7 * s 84 → zIn (s (88 + i))) ∧ ∀ i, 0 ≤ i → i < 5 * s 256 → zIn (s (186 + i)))
theorem pX8_layout {d : Nat} {Q : Int → zMem → Prop} {μ : zMem} {s : Int → Int} {x1 : Int} (hr : rowIs μ s) (hp : wfP s) (h1 : zIn x1) (hbad : ¬ (0 ≤ x1 ∧ x1 ≤ 4) → Q (-3) μ) (hno : 0 ≤ x1 ∧ x1 ≤ 4 → s 82 = 0 → Q (-4) μ) (hok : 0 ≤ x1 ∧ x1 ≤ 4 → s 82 = 1 → Q (s (83 + x1)) μ) : kX8_layout (d + 1) x1 μ Q := by
  refine bX8_layout ?_
  refine pin h1 (zi _) (zi _) hbad (fun c1 => ?_)
  rw [hr 82 (by omega) (by omega), hr (83 + x1) (by omega) (by omega)]
  rcases hp.1 with e | e
  · rw [e]
    exact ⟨⟨zi _, fun q => absurd q (by decide), fun _ => trivial⟩, hno c1 e⟩
  · rw [e]
    exact ⟨⟨zi _, fun _ => ⟨by omega, by omega⟩, fun _ => trivial⟩, hok c1 e⟩
theorem pX8_line {d : Nat} {Q : Int → zMem → Prop} {μ : zMem} {s : Int → Int} {x1 x2 : Int} (hr : rowIs μ s) (hp : wfP s) (h1 : zIn x1) (h2 : zIn x2) (hno : s 82 = 0 → Q (-4) μ) (hidx : s 82 = 1 → ¬ (0 ≤ x1 ∧ x1 ≤ s 84 - 1) → Q (-2) μ)
    (hbad : s 82 = 1 → 0 ≤ x1 ∧ x1 ≤ s 84 - 1 → ¬ (0 ≤ x2 ∧ x2 ≤ 6) → Q (-3) μ) (hok : s 82 = 1 → 0 ≤ x1 ∧ x1 ≤ s 84 - 1 → 0 ≤ x2 ∧ x2 ≤ 6 → Q (s (88 + 7 * x1 + x2)) μ) : kX8_line (d + 1) x1 x2 μ Q := by
  refine bX8_line ?_
  rw [hr 82 (by omega) (by omega), hr 84 (by omega) (by omega)]
  rcases hp.1 with e | e
  · rw [e]
    exact ⟨zi _, fun _ => hno e, fun q => absurd rfl q⟩
  · have hb := hp.2 e
    rw [e]
    refine ⟨zi _, fun q => absurd q (by decide), fun _ => ?_⟩
    refine pin h1 (zi _) (zi _) (hidx e) (fun c1 => ?_)
    refine pX8_in h2 (zi _) (zi _) ⟨⟨b2_in _, fun _ => trivial, fun q => ?_⟩, ?_⟩
    · rw [b2_0, Classical.not_not] at q
      exact ⟨by omega, by omega⟩
    · by_cases c2 : 0 ≤ x2 ∧ x2 ≤ 6
      · have e2 : ¬ b2 (0 ≤ x2 ∧ x2 ≤ 6) = 0 := fun q => (b2_0.mp q) c2
        rw [if_neg e2, hr _ (by omega) (by omega)]
        exact hok e c1 c2
      · rw [if_pos (b2_0.mpr c2)]
        exact hbad e c1 c2
theorem pX8_placed {d : Nat} {Q : Int → zMem → Prop} {μ : zMem} {s : Int → Int} {x1 x2 : Int} (hr : rowIs μ s) (hp : wfP s) (h1 : zIn x1) (h2 : zIn x2) (hno : s 82 = 0 → Q (-4) μ) (hidx : s 82 = 1 → ¬ (0 ≤ x1 ∧ x1 ≤ s 256 - 1) → Q (-2) μ)
    (hbad : s 82 = 1 → 0 ≤ x1 ∧ x1 ≤ s 256 - 1 → ¬ (0 ≤ x2 ∧ x2 ≤ 4) → Q (-3) μ) (hok : s 82 = 1 → 0 ≤ x1 ∧ x1 ≤ s 256 - 1 → 0 ≤ x2 ∧ x2 ≤ 4 → Q (s (186 + 5 * x1 + x2)) μ) : kX8_placed (d + 1) x1 x2 μ Q := by
  refine bX8_placed ?_
  rw [hr 82 (by omega) (by omega), hr 256 (by omega) (by omega)]
  rcases hp.1 with e | e
  · rw [e]
    exact ⟨zi _, fun _ => hno e, fun q => absurd rfl q⟩
  · have hb := hp.2 e
    rw [e]
    refine ⟨zi _, fun q => absurd q (by decide), fun _ => ?_⟩
    refine pin h1 (zi _) (zi _) (hidx e) (fun c1 => ?_)
    refine pX8_in h2 (zi _) (zi _) ⟨⟨b2_in _, fun _ => trivial, fun q => ?_⟩, ?_⟩
    · rw [b2_0, Classical.not_not] at q
      exact ⟨by omega, by omega⟩
    · by_cases c2 : 0 ≤ x2 ∧ x2 ≤ 4
      · have e2 : ¬ b2 (0 ≤ x2 ∧ x2 ≤ 4) = 0 := fun q => (b2_0.mp q) c2
        rw [if_neg e2, hr _ (by omega) (by omega)]
        exact hok e c1 c2
      · rw [if_pos (b2_0.mpr c2)]
        exact hbad e c1 c2
theorem pX8_type {d : Nat} {Q : Int → zMem → Prop} {μ : zMem} {x1 : Int} (h1 : zIn x1) (l0 : 0 ≤ gI μ 54 15) (l1 : gI μ 54 15 ≤ 80) (hbad : ¬ (0 ≤ x1 ∧ x1 ≤ 255) → Q (-3) μ) (hfull : 0 ≤ x1 ∧ x1 ≤ 255 → gI μ 54 15 = 80 → Q (-5) μ)
    (hok : 0 ≤ x1 ∧ x1 ≤ 255 → gI μ 54 15 < 80 → Q (gI μ 54 15 + 1) (sI (sI μ 63 (gI μ 54 15) x1) 54 15 (gI μ 54 15 + 1))) : kX8_type (d + 1) x1 μ Q := by
  refine bX8_type ?_
  refine pin h1 (zi _) (zi _) hbad (fun c1 => ?_)
  refine ⟨zi _, hfull c1, fun e => ⟨l0, by omega, ?_⟩⟩
  rw [gI_sIs, gI_sIn (by decide)]
  exact hok c1 (by omega)
theorem pX8_undo {d : Nat} {Q : Int → zMem → Prop} {μ : zMem} (k0 : 0 ≤ gI μ 54 1) (k1 : gI μ 54 1 ≤ 4) (hno : gI μ 54 1 = 0 → Q (-4) μ) (hok : 0 < gI μ 54 1 → Q (gI μ 54 1 - 1) (sI (cI μ 55 (257 * gI μ 54 1) 55 0 257) 54 1 (gI μ 54 1 - 1))) : kX8_undo (d + 1) μ Q := by
  refine bX8_undo ⟨zi _, hno, fun e => ?_⟩
  refine pX8_copies (by omega) (by omega) (by omega) (by omega) (by omega) ?_
  rw [gI_sIs, gI_cIn (by decide)]
  exact hok (by omega)
