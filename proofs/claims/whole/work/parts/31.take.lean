/-! take -/
def PV (s : Int → Int) (b : Int) (es : List Int) (x : Int) : Int := if x % 5 = 0 then FC s b es 0 (s 78) c0 (x / 5) else if x % 5 = 1 then wd s b (x / 5) else if x % 5 = 2 then sz s b (x / 5) else if x % 5 = 3 then lnO es 0 (x / 5) else FW s b es (x / 5)
def bot (s : Int → Int) (b : Int) (es : List Int) : Int := FV s b es 0 0 (s 78) c0 (7 * ((es.length : Int) - 1) + 2) + FV s b es 0 0 (s 78) c0 (7 * ((es.length : Int) - 1) + 3)
def takH (s : Int → Int) (b v : Int) (es : List Int) : Int → Int := fun i => if i = 82 then 1 else if i = 83 then b else if i = 84 then (es.length : Int) else if i = 85 then v else if i = 86 then FG s b es 0 (s 78) 0 0 c0 c0 else if i = 87 then bot s b es else s i
def takL (s : Int → Int) (b v : Int) (es : List Int) (j : Int) : Int → Int := fun i => if 88 ≤ i ∧ i < 88 + j then FV s b es 0 0 (s 78) c0 (i - 88) else takH s b v es i
def takP (s : Int → Int) (b v : Int) (es : List Int) (j : Int) : Int → Int := fun i => if 186 ≤ i ∧ i < 186 + j then PV s b es (i - 186) else takL s b v es (7 * (es.length : Int)) i
def takS (s : Int → Int) (b v : Int) (es : List Int) : Int → Int := fu (takP s b v es (5 * s 31)) 256 (s 31)
theorem PV_at {s : Int → Int} {b : Int} {es : List Int} {μ : zMem} {n : Int} (h : plc s b (FC s b es 0 (s 78) c0) (lnO es 0) 0 n μ) (h' : ∀ i, 0 ≤ i → i < n → gI μ 60 (5 * i + 4) = FW s b es i) {x : Int} (x0 : 0 ≤ x) (x1 : x < 5 * n) : gI μ 60 x = PV s b es x := by
  have h1 := h (x / 5) (by omega) (by omega)
  have h2 := h' (x / 5) (by omega) (by omega)
  unfold PV
  by_cases e0 : x % 5 = 0
  · rw [if_pos e0, ← h1.1]
    congr 1
    omega
  by_cases e1 : x % 5 = 1
  · rw [if_neg e0, if_pos e1, ← h1.2.1]
    congr 1
    omega
  by_cases e2 : x % 5 = 2
  · rw [if_neg e0, if_neg e1, if_pos e2, ← h1.2.2.1]
    congr 1
    omega
  by_cases e3 : x % 5 = 3
  · rw [if_neg e0, if_neg e1, if_neg e2, if_pos e3, ← h1.2.2.2]
    congr 1
    omega
  · rw [if_neg e0, if_neg e1, if_neg e2, if_neg e3, ← h2]
    congr 1
    omega
theorem fsp.mop {μ μ' μ'' : zMem} {s : Int → Int} (h : mop μ μ' s) (h' : fsp μ' μ'') : mop μ μ'' s := h.msc h'.1
theorem take_33 {d : Nat} {Q : Int → zMem → Prop} {μ ξ : zMem} {s : Int → Int} {b : Int} (k0 : 0 ≤ gI μ 54 1) (hm : mop μ ξ s) (hw : wf s) (hsp : spOK s ξ) (hb : b = -1 ∨ (1 ≤ b ∧ b ≤ 12))
    (hno : b = -1 ∨ CLs s b = [] → ∀ μ', mop μ μ' s → Q (-1) μ') (hok : b ≠ -1 → ∀ v es, bestOf (CLs s b) = some (v, es) → ∀ μ', mop μ μ' (takS s b v es) → Q v μ') : zX8_take_33 (d + 6) Q b ξ := by
  have hn := hw.2.2.1
  refine bX8_take_33 ⟨by rcases hb with h | h <;> exact zi _, fun h => hno (Or.inl h) ξ hm, fun hne => ?_⟩
  have hb' : 1 ≤ b ∧ b ≤ 12 := by omega
  rw [hm.at (show (0 : Int) ≤ 31 by decide) (by decide)]
  refine ⟨zi _, fun h => hno (Or.inr (CLs_0 (by omega))) ξ hm, fun h0 => ?_⟩
  refine pX8_finds hm.row hw hsp hb'.1 hb'.2 (by omega) ?_
  intro x ζ g1 g2 g3 g4 g5
  have mz := hm.msc g1.1
  refine ⟨g4, fun hx => hno (Or.inr (g5.mp hx)) ζ mz, fun hx => ?_⟩
  cases ho : bestOf (CLs s b) with
  | none => exact absurd (g5.mpr (bestOf_none.mp ho)) hx
  | some e =>
    obtain ⟨v, es⟩ := e
    rw [ho] at g3
    obtain ⟨hxv, bc, e13, bcl, hev⟩ := g3
    have hok' := evc_ok _ 0 (s 78) 0 c0 c0 v es (by omega) hev
    have hinc := okAll_inc es _ _ _ _ _ hok'
    obtain ⟨pf', hpi⟩ := PI_fin hw hb'.1 hb'.2 es 0 0 (s 78) 0 0 c0 c0 c0 c0 hok' (PI_0 hw)
    have hlen := inc_le es 0 hinc
    have hes : es ≠ [] := by
      intro q
      subst q
      have : (0 : Int) = s 31 := hok'
      omega
    have hl1 : 1 ≤ es.length := by
      cases es with
      | nil => exact absurd rfl hes
      | cons => simp
    rw [e13]
    refine pX8_lays (r := (s 31 - 1).toNat) mz.row hw (g1.sp hsp) hb'.1 hb'.2 bcl (by omega) (fun hnone => by rw [hev] at hnone; cases hnone) (fun v' es' hsome χ f1 f2 => ?_)
    rw [hev] at hsome
    injection hsome with hsome
    injection hsome with hv hes'
    subst hv
    subst hes'
    refine pX8_chains (U := c0) (V := c0) (l := 0) (f1.row mz.row) hw hb'.1 hb'.2 hinc f2 hpi.2.2.2.2.2.2.2.2.1 ?_
    intro ψ p1 p2 p3 p4
    have mp := ((mz.msc f1.msc).msc p1.1)
    have e7 : gI ψ 54 7 = (es.length : Int) := by
      rw [p2 54 (by decide) (by decide), f2.1, FL_eq]
      omega
    have e10 : gI ψ 54 10 = FG s b es 0 (s 78) 0 0 c0 c0 := by
      rw [p2 54 (by decide) (by decide)]
      exact f2.2.1
    have e59 : ∀ i, 0 ≤ i → i < 7 * (es.length : Int) → gI ψ 59 i = FV s b es 0 0 (s 78) c0 i := fun i a c => by
      rw [p2 59 (by decide) (by decide)]
      exact f2.2.2.1 i a (by rw [FL_eq]; omega)
    simp only [gI_sIn (show (54 : Nat) ≠ 55 by decide), gI_sIn (show (59 : Nat) ≠ 55 by decide)]
    rw [e7, e10, e59 _ (by omega) (by omega), e59 _ (by omega) (by omega)]
    refine ⟨by omega, by omega, by omega, by omega, ?_⟩
    generalize hφ : sI (sI (sI (sI (sI (sI ψ 55 82 1) 55 83 b) 55 84 (es.length : Int)) 55 85 v) 55 86 (FG s b es 0 (s 78) 0 0 c0 c0)) 55 87 (FV s b es 0 0 (s 78) c0 (7 * ((es.length : Int) - 1) + 2) + FV s b es 0 0 (s 78) c0 (7 * ((es.length : Int) - 1) + 3)) = φ
    have φ1 : mop μ φ (takH s b v es) := by
      rw [← hφ]
      refine ((((((mp.sI (i := 82) (v := 1) k0 (by decide)).sI (i := 83) (v := b) k0 (by decide)).sI (i := 84) (v := (es.length : Int)) k0 (by decide)).sI (i := 85) (v := v) k0 (by decide)).sI (i := 86) (v := FG s b es 0 (s 78) 0 0 c0 c0) k0 (by decide)).sI (i := 87) (v := bot s b es) k0 (by decide)).congr (fun i _ _ => ?_)
      unfold takH fu
      by_cases h2 : i = 82
      · subst h2
        simp
      by_cases h3 : i = 83
      · subst h3
        simp
      by_cases h4 : i = 84
      · subst h4
        simp
      by_cases h5 : i = 85
      · subst h5
        simp
      by_cases h6 : i = 86
      · subst h6
        simp
      simp [h2, h3, h4, h5, h6]
    have φq : ∀ q, q ≠ 55 → gI φ q = gI ψ q := fun q hq => by
      rw [← hφ, gI_sIn hq, gI_sIn hq, gI_sIn hq, gI_sIn hq, gI_sIn hq, gI_sIn hq]
    have loopP : ∀ (m : Nat) (j : Int) (χ' : zMem), j + m = 5 * s 31 → 0 ≤ j → mop μ χ' (takP s b v es j) → (∀ q, q ≠ 55 → gI χ' q = gI ψ q) → zX8_take_207 (d + 6) Q v j χ' := by
      intro m
      induction m with
      | zero =>
        intro j χ' hj j0 w1 w2
        have r31 : gI χ' 55 31 = s 31 := by
          rw [w1.at (show (0 : Int) ≤ 31 by decide) (by decide)]
          simp [takP, takL, takH]
        refine bX8_take_207 ⟨zi _, by rw [r31]; exact zi _, fun _ => ?_, fun h => absurd (by rw [r31]; omega) h⟩
        rw [r31]
        have ej : j = 5 * s 31 := by omega
        rw [ej] at w1
        exact hok hne v es ho _ (w1.sI k0 (by decide))
      | succ m ih =>
        intro j χ' hj j0 w1 w2
        have r31 : gI χ' 55 31 = s 31 := by
          rw [w1.at (show (0 : Int) ≤ 31 by decide) (by decide)]
          simp [takP, takL, takH]
        refine bX8_take_207 ⟨zi _, by rw [r31]; exact zi _, fun h => absurd h (by rw [r31]; omega), fun _ => ⟨by omega, by omega, by omega, by omega, ?_⟩⟩
        have e : gI χ' 60 j = PV s b es j := by
          rw [w2 60 (by decide)]
          exact PV_at p3 p4 j0 (by omega)
        rw [e]
        refine ih (j + 1) _ (by omega) (by omega) ((w1.sI k0 (by omega)).congr (fun i _ _ => ?_)) (fun q hq => by rw [gI_sIn hq]; exact w2 q hq)
        unfold fu takP
        by_cases h : i = 186 + j
        · rw [if_pos h, if_pos (by omega), h, show 186 + j - 186 = j by omega]
        · rw [if_neg h]
          by_cases h' : 186 ≤ i ∧ i < 186 + j
          · rw [if_pos h', if_pos (by omega)]
          · rw [if_neg h', if_neg (by omega)]
    have loopL : ∀ (m : Nat) (j : Int) (χ' : zMem), j + m = 7 * (es.length : Int) → 0 ≤ j → mop μ χ' (takL s b v es j) → (∀ q, q ≠ 55 → gI χ' q = gI ψ q) → zX8_take_169 (d + 6) Q v j χ' := by
      intro m
      induction m with
      | zero =>
        intro j χ' hj j0 w1 w2
        have r7 : gI χ' 54 7 = (es.length : Int) := by rw [w2 54 (by decide)]; exact e7
        refine bX8_take_169 ⟨zi _, by rw [r7]; exact zi _, fun _ => ?_, fun h => absurd (by rw [r7]; omega) h⟩
        have ej : j = 7 * (es.length : Int) := by omega
        rw [ej] at w1
        exact loopP (5 * s 31).toNat 0 χ' (by omega) (by omega) (w1.congr (fun i _ _ => by unfold takP; rw [if_neg (by omega)])) w2
      | succ m ih =>
        intro j χ' hj j0 w1 w2
        have r7 : gI χ' 54 7 = (es.length : Int) := by rw [w2 54 (by decide)]; exact e7
        refine bX8_take_169 ⟨zi _, by rw [r7]; exact zi _, fun h => absurd h (by rw [r7]; omega), fun _ => ⟨by omega, by omega, by omega, by omega, ?_⟩⟩
        rw [w2 59 (by decide), e59 j j0 (by omega)]
        refine ih (j + 1) _ (by omega) (by omega) ((w1.sI k0 (by omega)).congr (fun i _ _ => ?_)) (fun q hq => by rw [gI_sIn hq]; exact w2 q hq)
        unfold fu takL
        by_cases h : i = 88 + j
        · rw [if_pos h, if_pos (by omega), h, show 88 + j - 88 = j by omega]
        · rw [if_neg h]
          by_cases h' : 88 ≤ i ∧ i < 88 + j
          · rw [if_pos h', if_pos (by omega)]
          · rw [if_neg h', if_neg (by omega)]
    exact loopL (7 * (es.length : Int)).toNat 0 φ (by omega) (by omega) (φ1.congr (fun i _ _ => by unfold takL; rw [if_neg (by omega)])) φq
def takB (s : Int → Int) (x : Int) : Int := if x = 0 then FITV s 12 else x
theorem pX8_take {d : Nat} {Q : Int → zMem → Prop} {μ : zMem} {s : Int → Int} {x1 : Int} (h : mpre μ s) (h1 : zIn x1) (hbad : ¬ (0 ≤ x1 ∧ x1 ≤ 12) → Q (-3) μ)
    (hno : 0 ≤ x1 ∧ x1 ≤ 12 → takB s x1 = -1 ∨ CLs s (takB s x1) = [] → ∀ μ', mop μ μ' s → Q (-1) μ') (hok : 0 ≤ x1 ∧ x1 ≤ 12 → takB s x1 ≠ -1 → ∀ v es, bestOf (CLs s (takB s x1)) = some (v, es) → ∀ μ', mop μ μ' (takS s (takB s x1) v es) → Q v μ') : kX8_take (d + 7) x1 μ Q := by
  obtain ⟨hr, hw, k0, k1⟩ := h
  refine bX8_take ?_
  refine pin h1 (zi _) (zi _) hbad (fun hb => ?_)
  refine pX8_records k0 k1 ?_
  intro ξ hrec
  have m0 := mop_rec hrec hr
  refine pX8_findsSpans m0.row hw ?_
  intro ζ g1 g2
  have m1 := m0.msc g1
  refine ⟨h1, fun h0 => ?_, fun h0 => ?_⟩
  · have e : takB s x1 = FITV s 12 := by
      unfold takB
      rw [if_pos h0]
    have fb := FITV_bd s 12
    rw [e] at hno hok
    refine pX8_fits m1.row hw g2 ?_
    intro χ w
    exact take_33 k0 (m1.msc w.1) hw (w.sp g2) (by omega) (hno hb) (hok hb)
  · have e : takB s x1 = x1 := by
      unfold takB
      rw [if_neg h0]
    rw [e] at hno hok
    exact take_33 k0 m1 hw g2 (by omega) (hno hb) (hok hb)
