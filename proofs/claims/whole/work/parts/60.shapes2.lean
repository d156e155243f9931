/-! calls that change shapes, side by side -/
theorem cop.canv {B : Int} {f : Int → Nat} {n : Int} {s s' : Int → Int} {h : Int → Int → Int} {μ μr μ1 : zMem} (H : SM B s h n f μ) (c : cop f n s s μ μr) (r : rmf μ μr) (v : cvs μr μ1) (cv : CV s' μ1) (e : ∀ i, 31 ≤ i → i < 257 → s' i = s i) (hc : gI μr 2 1 < gI μ1 2 1 ∧ gI μ1 2 1 ≤ gI μr 2 1 + 2) : cop f n s s' μ μ1 := by
  have c' := c
  obtain ⟨f', n', c1, c2, c3, c4, c5, c6, c7, c8, c9, c10, c11⟩ := c'
  obtain ⟨a1, a2, a3, a4, a5, a6, a7⟩ := c6
  have hn := H.1.2.1.2.2.1
  have r2 : gI μr 2 = gI μ 2 := r.2.1 2 (by omega) (by omega)
  have fi : ∀ q, ¬ (1 ≤ q ∧ q ≤ 6) → gI μ1 q = gI μr q := fun q a => v.2.2.1 q (by omega) (by omega)
  refine c.mod H.2.1.1 H.2.1.2.1 v.1 (fun q _ => by rw [v.2.1]) fi v.2.2.2 ⟨cv.1, cv.2.1, cv.2.2, ?_, fun i x y => ?_, fun i x y => ?_, ?_⟩ (fun q x y => ?_) (by rw [← r2]; omega)
  · rw [v.2.2.1 1 (by decide) (by decide), e 31 (by omega) (by omega)]
    exact a4
  · rw [e 31 (by omega) (by omega)] at y
    rw [v.2.2.1 5 (by decide) (by decide), e _ (by omega) (by omega)]
    exact a5 i x y
  · rw [v.2.2.1 6 (by decide) (by decide), e _ (by omega) (by omega)]
    exact a6 i x y
  · exact (a7.lay (lay_of v.1 (fun q hq => ⟨v.2.2.1 q (by omega) (by omega), by rw [v.2.1]⟩)) (by rw [v.2.1])).c H.1.2.2 (fun i a b => e i (by omega) b)
  · have := c7 q x y
    rw [v.2.2.1 15 (by decide) (by decide)]
    exact ⟨this.1, by omega, fun z => by omega⟩
theorem wf_shp {s s' : Int → Int} (hw : wf s) (h0 : 0 ≤ s' 0 ∧ s' 0 ≤ 6) (hk : ∀ k, 0 ≤ k → k < s' 0 → shp s' k) (e : ∀ i, 31 ≤ i → i < 257 → s' i = s i) : wf s' := by
  have hn := hw.2.2.1
  refine ⟨h0, hk, by rw [e 31 (by omega) (by omega)]; exact hn, fun k a c => ?_, ?_⟩
  · rw [e 31 (by omega) (by omega)] at c
    rw [e _ (by omega) (by omega), e _ (by omega) (by omega), e _ (by omega) (by omega)]
    exact hw.2.2.2.1 k a c
  · rw [e 74 (by omega) (by omega), e 75 (by omega) (by omega), e 76 (by omega) (by omega), e 77 (by omega) (by omega), e 78 (by omega) (by omega), e 79 (by omega) (by omega), e 80 (by omega) (by omega), e 81 (by omega) (by omega)]
    exact hw.2.2.2.2
theorem XS.cv {s : Int → Int} {μ : zMem} (h : XS 1 s μ) : CV s μ := ⟨h.1, h.2.1, h.2.2.1⟩
theorem sim_addShape {d e : Nat} {B x1 x2 x3 x4 x5 : Int} {μ : zMem} (h1 : zIn x1) (h2 : zIn x2) (h3 : zIn x3) (h4 : zIn x4) (h5 : zIn x5) (h : SIM B μ) : kX7_addShape (d + 4) x1 x2 x3 x4 x5 μ (fun r μ1 => kX8_addShape (e + 2) x1 x2 x3 x4 x5 μ1 (twin (B + 2) r)) := by
  have S := h.up
  obtain ⟨s, hh, n, f, H⟩ := h
  have hw := H.1.2.1
  have h0 := hw.1
  have bad : ¬ okSh x1 x2 x3 x4 x5 → kX8_addShape (e + 2) x1 x2 x3 x4 x5 μ (twin (B + 2) (-3)) := fun g => pX8_addShape H.pre h1 h2 h3 h4 h5 (fun _ => ⟨zi _, zi _, rfl, S⟩) (fun q => absurd q g) (fun q => absurd q g)
  refine bX7_addShape (cin h1 (zi _) (zi _) (fun g => bad (fun q => g q.1)) (fun g1 => ?_))
  refine pX7_isBox h2 h3 h4 h5 (fun g => ⟨zi _, fun _ => bad (fun q => g q.2), fun q => absurd rfl q⟩) (fun g => ⟨zi _, fun q => absurd q (by decide), fun _ => ?_⟩)
  have ok : okSh x1 x2 x3 x4 x5 := ⟨g1, g⟩
  rw [H.2.2.2.2.1.1]
  refine ⟨zi _, fun lt => H.rem ?_, fun lt => pX8_addShape H.pre h1 h2 h3 h4 h5 (fun q => absurd ok q) (fun _ _ => ⟨zi _, zi _, rfl, S⟩) (fun _ q => absurd q lt)⟩
  intro μr c r
  refine pX1_append hw (r.xs H.2.2.2.2.1).cv lt g1 g ?_
  intro μ1 v cv hc
  have ee : ∀ i, 31 ≤ i → i < 257 → addSh s x1 x2 x3 x4 x5 i = s i := fun i a b => addSh_at (by omega) (by omega)
  have cc := cop.canv H c r v cv ee (by omega)
  rw [cv.1, addSh_n]
  refine pX8_addShape (cc.pre H) h1 h2 h3 h4 h5 (fun q => absurd ok q) (fun _ q => by omega) (fun _ _ μ' m => ⟨zi _, zi _, by omega, H.op cc m (wf_shp hw (by rw [addSh_n]; omega) (fun k a b => ?_) ee) (wfP_c H.1.2.2 (fun i a b => ee i (by omega) b))⟩)
  rw [addSh_n] at b
  by_cases ek : k = s 0
  · have aj := addSh_j (s := s) (kd := x1) (x1 := x2) (y1 := x3) (x2 := x4) (y2 := x5) h0.1
    rw [ek]
    unfold shp
    rw [aj.1, aj.2.1, aj.2.2.1, aj.2.2.2.1, aj.2.2.2.2]
    obtain ⟨b1, b2', b3, b4⟩ := g
    omega
  · unfold shp
    rw [addSh_at (by omega) (by omega), addSh_at (by omega) (by omega), addSh_at (by omega) (by omega), addSh_at (by omega) (by omega), addSh_at (by omega) (by omega)]
    exact hw.2.1 k a (by omega)
theorem sim_removeShape {d e : Nat} {B x1 : Int} {μ : zMem} (h1 : zIn x1) (h : SIM B μ) : kX7_removeShape (d + 4) x1 μ (fun r μ1 => kX8_removeShape (e + 2) x1 μ1 (twin (B + 2) r)) := by
  have S := h.up
  obtain ⟨s, hh, n, f, H⟩ := h
  have hw := H.1.2.1
  have h0 := hw.1
  refine bX7_removeShape ?_
  rw [H.2.2.2.2.1.1]
  refine cin h1 (zi _) (zi _) (fun g => pX8_removeShape H.pre h1 (fun _ => ⟨zi _, zi _, rfl, S⟩) (fun q => absurd (by omega) g)) (fun g => H.rem ?_)
  intro μr c r
  refine pX1_drop hw (r.xs H.2.2.2.2.1).cv g.1 (by omega) ?_
  intro μ1 v cv hc
  have ee : ∀ i, 31 ≤ i → i < 257 → remSh s x1 i = s i := fun i a b => by
    unfold remSh
    rw [if_neg (by omega), if_neg (by omega)]
  have e0 : remSh s x1 0 = s 0 - 1 := by
    unfold remSh
    rw [if_pos rfl]
  have cc := cop.canv H c r v cv ee (by omega)
  rw [cv.1, e0]
  refine pX8_removeShape (cc.pre H) h1 (fun q => absurd (by omega) q) (fun _ μ' m => ⟨zi _, zi _, rfl, H.op cc m (wf_shp hw (by rw [e0]; omega) (fun k a b => ?_) ee) (wfP_c H.1.2.2 (fun i a b => ee i (by omega) b))⟩)
  rw [e0] at b
  have sh : ∀ j, 0 ≤ j → j < 5 → remSh s x1 (1 + 5 * k + j) = s (1 + 5 * (if k < x1 then k else k + 1) + j) := fun j p q => by
    unfold remSh
    rw [if_neg (by omega)]
    by_cases z : k < x1
    · rw [if_neg (by omega), if_pos z]
    · rw [if_pos (by omega), if_neg z, show 1 + 5 * k + j + 5 = 1 + 5 * (k + 1) + j by omega]
  unfold shp
  rw [sh 0 (by omega) (by omega), sh 1 (by omega) (by omega), sh 2 (by omega) (by omega), sh 3 (by omega) (by omega), sh 4 (by omega) (by omega)]
  by_cases z : k < x1
  · rw [if_pos z]
    exact hw.2.1 k a (by omega)
  · rw [if_neg z]
    exact hw.2.1 (k + 1) (by omega) (by omega)
theorem sim_moveShape {d e : Nat} {B x1 x2 x3 : Int} {μ : zMem} (h1 : zIn x1) (h2 : zIn x2) (h3 : zIn x3) (h : SIM B μ) : kX7_moveShape (d + 4) x1 x2 x3 μ (fun r μ1 => kX8_moveShape (e + 4) x1 x2 x3 μ1 (twin (B + 2) r)) := by
  have S := h.up
  obtain ⟨s, hh, n, f, H⟩ := h
  have hw := H.1.2.1
  have h0 := hw.1
  have hx := H.2.2.2.2.1
  refine bX7_moveShape ?_
  rw [hx.1]
  refine cin h1 (zi _) (zi _) (fun g => pX8_moveShape H.pre h1 h2 h3 (fun _ => ⟨zi _, zi _, rfl, S⟩) (fun q => absurd (by omega) g) (fun q => absurd (by omega) g)) (fun g => ?_)
  have bad : ¬ okMv s x1 x2 x3 → kX8_moveShape (e + 4) x1 x2 x3 μ (twin (B + 2) (-3)) := fun g' => pX8_moveShape H.pre h1 h2 h3 (fun q => absurd (by omega) q) (fun _ _ => ⟨zi _, zi _, rfl, S⟩) (fun _ q => absurd q g')
  refine cin h2 (zi _) (zi _) (fun g' => bad (fun q => g' q.1)) (fun g2 => ?_)
  refine cin h3 (zi _) (zi _) (fun g' => bad (fun q => g' q.2.1)) (fun g3 => ?_)
  have sk := hw.2.1 x1 g.1 (by omega)
  have sh := hx.cv.sh (k := x1) g.1 (by omega)
  refine bX1_canShift ⟨by omega, by omega, by omega, by omega, by omega, by omega, by omega, by omega, ?_⟩
  rw [sh 1 (by omega) (by omega), sh 2 (by omega) (by omega), sh 3 (by omega) (by omega), sh 4 (by omega) (by omega)]
  refine pX7_isBox (zi _) (zi _) (zi _) (zi _) (fun g' => ⟨Or.inl rfl, zi _, fun _ => bad (fun q => g' ?_), fun q => absurd rfl q⟩) (fun g' => ⟨Or.inr rfl, zi _, fun q => absurd q (by decide), fun _ => H.rem ?_⟩)
  · unfold okMv at q
    unfold box
    omega
  have ok : okMv s x1 x2 x3 := by
    unfold box at g'
    unfold okMv
    omega
  intro μr c r
  refine pX1_shift hw (r.xs hx).cv g.1 (by omega) ok ?_
  intro μ1 v cv hc
  have ee : ∀ i, 31 ≤ i → i < 257 → movSh s x1 x2 x3 i = s i := fun i a b => movSh_at (by omega)
  have cc := cop.canv H c r v cv ee (by omega)
  have fb := fsum_bd (movSh s x1 x2 x3) 48
  refine pX1_freeCells (s := movSh s x1 x2 x3) cv.2.2 ?_
  exact pX8_moveShape (cc.pre H) h1 h2 h3 (fun q => absurd (by omega) q) (fun _ q => absurd ok q) (fun _ _ μ' m => ⟨zi _, zi _, rfl, H.op cc m (wf_mov hw g.1 (by omega) ok) (wfP_c H.1.2.2 (fun i a b => ee i (by omega) b))⟩)
