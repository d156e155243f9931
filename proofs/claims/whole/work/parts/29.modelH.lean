/-! fits, cost, allowed, widestStep, tightestLimit -/
theorem CLs_0 {s : Int → Int} {b : Int} (h : s 31 ≤ 0) : CLs s b = [] := by
  unfold CLs isL
  rw [decide_eq_false (by omega)]
  simp
def FITV (s : Int → Int) : Nat → Int
  | 0 => -1
  | n + 1 => if (CLs s ((n + 1 : Nat) : Int)).isEmpty = true then FITV s n else ((n + 1 : Nat) : Int)
theorem FITV_0 {s : Int → Int} (h : s 31 ≤ 0) : ∀ n, FITV s n = -1
  | 0 => rfl
  | n + 1 => by
    unfold FITV
    rw [CLs_0 h]
    exact FITV_0 h n
theorem FITV_bd (s : Int → Int) : ∀ n : Nat, -1 ≤ FITV s n ∧ FITV s n ≤ n ∧ FITV s n ≠ 0
  | 0 => by simp [FITV]
  | n + 1 => by
    have := FITV_bd s n
    unfold FITV
    split <;> omega
theorem pX8_fits {d : Nat} {Q : Int → zMem → Prop} {μ : zMem} {s : Int → Int} (hr : rowIs μ s) (hw : wf s) (hsp : spOK s μ) (hQ : ∀ μ', fsp μ μ' → Q (FITV s 12) μ') : kX8_fits (d + 6) μ Q := by
  have hn := hw.2.2.1
  refine bX8_fits ?_
  rw [hr 31 (by omega) (by omega)]
  refine ⟨zi _, ?_⟩
  by_cases h0 : s 31 = 0
  · rw [if_pos h0]
    refine bX8_fits_17 ⟨zi _, fun _ => ?_, fun h => absurd (by omega) h⟩
    rw [if_pos (by omega)]
    have := hQ μ fsp.rf
    rw [FITV_0 (by omega)] at this
    exact this
  · rw [if_neg h0]
    have loop : ∀ (n : Nat) (ξ : zMem), n ≤ 12 → fsp μ ξ → (∀ μ', fsp μ μ' → Q (FITV s n) μ') → zX8_fits_17 (d + 5) Q (n : Int) ξ := by
      intro n
      induction n with
      | zero =>
        intro ξ _ h1 h2
        refine bX8_fits_17 ⟨zi _, fun _ => ?_, fun h => absurd (by omega) h⟩
        exact h2 ξ h1
      | succ n ih =>
        intro ξ hn' h1 h2
        refine bX8_fits_17 ⟨zi _, fun h => absurd h (by omega), fun _ => ?_⟩
        refine pX8_finds (h1.1.row hr) hw (h1.sp hsp) (by omega) (by omega) (by omega) ?_
        intro x μ' g1 g2 g3 g4 g5
        refine ⟨g4, fun hx => ?_, fun hx => ?_⟩
        · rw [show ((n + 1 : Nat) : Int) + -1 = (n : Int) by omega]
          refine ih μ' (by omega) (h1.tr g1) (fun μ'' w => ?_)
          have := h2 μ'' w
          unfold FITV at this
          rw [if_pos (by rw [List.isEmpty_iff]; exact g5.mp hx)] at this
          exact this
        · rw [if_neg (by omega)]
          have := h2 μ' (h1.tr g1)
          unfold FITV at this
          rw [if_neg (by rw [List.isEmpty_iff]; exact fun q => hx (g5.mpr q))] at this
          exact this
    exact loop 12 μ (by omega) fsp.rf hQ
def costV (s : Int → Int) (b : Int) : Int := match bestOf (CLs s b) with | none => -1 | some e => e.1
theorem bsm_cost {s : Int → Int} {b : Int} {r : Nat} {x : Int} {μ : zMem} (h : bsm s b r (bestOf (CLs s b)) x μ) : x = costV s b := by
  unfold costV
  cases ho : bestOf (CLs s b) with
  | none => rw [ho] at h; exact h
  | some e => rw [ho] at h; exact h.1
theorem costV_0 {s : Int → Int} {b : Int} (h : CLs s b = []) : costV s b = -1 := by
  unfold costV
  rw [h]
  rfl
theorem pX8_cost {d : Nat} {Q : Int → zMem → Prop} {μ : zMem} {s : Int → Int} {x1 : Int} (hr : rowIs μ s) (hw : wf s) (h1 : zIn x1) (hbad : ¬ (1 ≤ x1 ∧ x1 ≤ 12) → Q (-3) μ) (hok : 1 ≤ x1 ∧ x1 ≤ 12 → ∀ μ', msc μ μ' → Q (costV s x1) μ') : kX8_cost (d + 6) x1 μ Q := by
  have hn := hw.2.2.1
  refine bX8_cost ?_
  refine pin h1 (zi _) (zi _) hbad (fun hb => ?_)
  refine pX8_findsSpans hr hw ?_
  intro ξ m1 m2
  rw [m1.row hr 31 (by omega) (by omega)]
  refine ⟨zi _, fun h0 => ?_, fun h0 => ?_⟩
  · have := hok hb ξ m1
    rw [costV_0 (CLs_0 (by omega))] at this
    exact this
  · refine pX8_finds (m1.row hr) hw m2 (by omega) (by omega) (by omega) ?_
    intro x μ' g1 g2 g3 g4 g5
    rw [bsm_cost g3]
    exact hok hb μ' (m1.tr g1.1)
theorem pX8_fit {d : Nat} {Q : Int → zMem → Prop} {μ : zMem} {s : Int → Int} (hr : rowIs μ s) (hw : wf s) (hok : ∀ μ', msc μ μ' → Q (FITV s 12) μ') : kX8_fit (d + 7) μ Q := by
  refine bX8_fit ?_
  refine pX8_findsSpans hr hw ?_
  intro ξ m1 m2
  exact pX8_fits (m1.row hr) hw m2 (fun μ' g1 => hok μ' (m1.tr g1.1))
theorem pX8_allowed {d : Nat} {Q : Int → zMem → Prop} {μ : zMem} {s : Int → Int} {x1 : Int} (hr : rowIs μ s) (hw : wf s) (h1 : zIn x1) (hbad : ¬ (1 ≤ x1 ∧ x1 ≤ 12) → Q (-3) μ) (hok : 1 ≤ x1 ∧ x1 ≤ 12 → ∀ μ', msc μ μ' → Q ((CLs s x1).length : Int) μ') : kX8_allowed (d + 6) x1 μ Q := by
  have hn := hw.2.2.1
  refine bX8_allowed ?_
  refine pin h1 (zi _) (zi _) hbad (fun hb => ?_)
  refine pX8_findsSpans hr hw ?_
  intro ξ m1 m2
  rw [m1.row hr 31 (by omega) (by omega)]
  refine ⟨zi _, fun h0 => ?_, fun h0 => ?_⟩
  · have := hok hb ξ m1
    rw [CLs_0 (by omega)] at this
    rw [if_pos h0]
    exact this
  · refine pX8_finds (m1.row hr) hw m2 (by omega) (by omega) (by omega) ?_
    intro x μ' g1 g2 g3 g4 g5
    rw [(m1.tr g1.1).row hr 31 (by omega) (by omega)]
    refine ⟨zi _, ?_⟩
    rw [if_neg h0, g2]
    exact hok hb μ' (m1.tr g1.1)
/-! other settings, the same spans -/
theorem cnt_congr {s s' : Int → Int} (h : ∀ i, i < 74 → s i = s' i) (x y : Int) : ∀ n : Nat, n ≤ 6 → cnt s x y n = cnt s' x y n
  | 0, _ => rfl
  | n + 1, hn => by
    unfold cnt
    rw [cnt_congr h x y n (by omega)]
    have : bel s (n : Int) x y = bel s' (n : Int) x y := by
      unfold bel
      rw [h (1 + 5 * (n : Int) + 0) (by omega), h (1 + 5 * (n : Int) + 1) (by omega), h (1 + 5 * (n : Int) + 2) (by omega), h (1 + 5 * (n : Int) + 3) (by omega), h (1 + 5 * (n : Int) + 4) (by omega)]
    rw [this]
theorem freeB_congr {s s' : Int → Int} (hw : wf s) (h : ∀ i, i < 74 → s i = s' i) (x y : Int) : freeB s x y = freeB s' x y := by
  have := hw.1
  unfold freeB
  rw [← h 0 (by omega), cnt_congr h x y (s 0).toNat (by omega)]
theorem bandB_congr {s s' : Int → Int} (hw : wf s) (h : ∀ i, i < 74 → s i = s' i) (row : Int) (x : Nat) : ∀ r : Nat, bandB s row r x = bandB s' row r x
  | 0 => rfl
  | r + 1 => by
    unfold bandB
    rw [bandB_congr hw h row x r, freeB_congr hw h]
theorem SL_congr {s s' : Int → Int} (hw : wf s) (h : ∀ i, i < 74 → s i = s' i) (row rows : Int) : SL s row rows = SL s' row rows ∧ SF s row rows = SF s' row rows := by
  unfold SL SF
  rw [spr_congr (fun x _ => bandB_congr hw h row x rows.toNat) 48 (by omega)]
  exact ⟨rfl, rfl⟩
theorem spOK_congr {s s' : Int → Int} {μ : zMem} (hw : wf s) (h : ∀ i, i < 74 → s i = s' i) (hs : spOK s μ) : spOK s' μ := fun row rows a b c => by
  have h1 := hs row rows a b c
  have h2 := SL_congr hw h row rows
  rw [← h2.1, ← h2.2]
  exact h1
theorem wf_fu {s : Int → Int} {i v : Int} (hw : wf s) (h : (i = 74 ∧ 0 ≤ v ∧ v ≤ 4) ∨ (i = 81 ∧ 1 ≤ v ∧ v ≤ 9)) : wf (fu s i v) := by
  obtain ⟨w1, w2, w3, w4, w5, w6, w7, w8, w9, w10, w11, w12⟩ := hw
  have e0 : fu s i v 0 = s 0 := fu_o (by omega)
  have e31 : fu s i v 31 = s 31 := fu_o (by omega)
  refine ⟨by rw [e0]; exact w1, fun k a c => ?_, by rw [e31]; exact w3, fun k a c => ?_, ?_, by rw [fu_o (by omega)]; exact w6, by rw [fu_o (by omega)]; exact w7, by rw [fu_o (by omega)]; exact w8, by rw [fu_o (by omega)]; exact w9, by rw [fu_o (by omega)]; exact w10, by rw [fu_o (by omega)]; exact w11, ?_⟩
  · rw [e0] at c
    rw [fu_o (by omega), fu_o (by omega), fu_o (by omega), fu_o (by omega), fu_o (by omega)]
    exact w2 k a c
  · rw [e31] at c
    rw [fu_o (by omega), fu_o (by omega), fu_o (by omega)]
    exact w4 k a c
  · rcases h with h | h
    · rw [h.1, fu_s]
      omega
    · rw [fu_o (by omega)]
      exact w5
  · rcases h with h | h
    · rw [fu_o (by omega)]
      exact w12
    · rw [h.1, fu_s]
      omega
/-- all is kept but one setting -/
def mst (i : Int) (μ μ' : zMem) : Prop := clsame μ μ' ∧ (∀ j, j ≠ i → gI μ' 55 j = gI μ 55 j) ∧ gI μ' 63 = gI μ 63 ∧ gI μ' 54 1 = gI μ 54 1 ∧ gI μ' 54 15 = gI μ 54 15 ∧ gI μ' 56 = gI μ 56 ∧ gI μ' 57 = gI μ 57
theorem mst.rf {i : Int} {μ : zMem} : mst i μ μ := ⟨clsame.rf, fun _ _ => rfl, rfl, rfl, rfl, rfl, rfl⟩
theorem mst.w {i v : Int} {μ μ' : zMem} (h : mst i μ μ') : mst i μ (sI μ' 55 i v) := ⟨h.1.sI (by omega), fun j hj => by rw [gI_sIo hj]; exact h.2.1 j hj, by rw [gI_sIn (by decide)]; exact h.2.2.1, by rw [gI_sIn (by decide)]; exact h.2.2.2.1, by rw [gI_sIn (by decide)]; exact h.2.2.2.2.1, by rw [gI_sIn (by decide)]; exact h.2.2.2.2.2.1, by rw [gI_sIn (by decide)]; exact h.2.2.2.2.2.2⟩
theorem mst.f {i : Int} {μ μ' μ'' : zMem} (h : mst i μ μ') (h' : fsp μ' μ'') : mst i μ μ'' := ⟨h.1.tr h'.1.1, fun j hj => by rw [h'.1.2.1]; exact h.2.1 j hj, h'.1.2.2.1.trans h.2.2.1, h'.1.2.2.2.1.trans h.2.2.2.1, h'.1.2.2.2.2.trans h.2.2.2.2.1, h'.2.1.trans h.2.2.2.2.2.1, h'.2.2.trans h.2.2.2.2.2.2⟩
theorem mst.row {i v : Int} {μ μ' : zMem} {s : Int → Int} (h : mst i μ μ') (hr : rowIs μ s) : rowIs (sI μ' 55 i v) (fu s i v) := fun j a b => by
  by_cases e : j = i
  · rw [e, gI_sIs, fu_s]
  · rw [gI_sIo e, fu_o e, h.2.1 j e]
    exact hr j a b
theorem mst.back {i : Int} {μ μ' : zMem} (h : mst i μ μ') : msc μ (sI μ' 55 i (gI μ 55 i)) := ⟨h.1.sI (by omega), funext fun j => by
  by_cases e : j = i
  · rw [e, gI_sIs]
  · rw [gI_sIo e]
    exact h.2.1 j e, by rw [gI_sIn (by decide)]; exact h.2.2.1, by rw [gI_sIn (by decide)]; exact h.2.2.2.1, by rw [gI_sIn (by decide)]; exact h.2.2.2.2.1⟩
theorem mst.sp {i v : Int} {μ μ' : zMem} {s : Int → Int} (h : mst i μ μ') (hw : wf s) (hi : 74 ≤ i) (hs : spOK s μ) : spOK (fu s i v) (sI μ' 55 i v) := fun row rows a b c => by
  have h1 := spOK_congr (s' := fu s i v) hw (fun j hj => (fu_o (by omega)).symm) hs row rows a b c
  rw [gI_sIn (by decide), gI_sIn (by decide), h.2.2.2.2.2.1, h.2.2.2.2.2.2]
  exact h1
def WS (s : Int → Int) (b : Int) : Nat → Int
  | 0 => -1
  | n + 1 => if (CLs (fu s 74 (n : Int)) b).isEmpty = true then WS s b n else (n : Int)
theorem WS_0 {s : Int → Int} {b : Int} (h : s 31 ≤ 0) : ∀ n, WS s b n = -1
  | 0 => rfl
  | n + 1 => by
    unfold WS
    rw [CLs_0 (by rw [fu_o (by decide)]; exact h)]
    exact WS_0 h n
theorem pX8_widestStep {d : Nat} {Q : Int → zMem → Prop} {μ : zMem} {s : Int → Int} {x1 : Int} (hr : rowIs μ s) (hw : wf s) (h1 : zIn x1) (hbad : ¬ (1 ≤ x1 ∧ x1 ≤ 12) → Q (-3) μ) (hok : 1 ≤ x1 ∧ x1 ≤ 12 → ∀ μ', msc μ μ' → Q (WS s x1 5) μ') : kX8_widestStep (d + 6) x1 μ Q := by
  have hn := hw.2.2.1
  refine bX8_widestStep ?_
  refine pin h1 (zi _) (zi _) hbad (fun hb => ?_)
  refine pX8_findsSpans hr hw ?_
  intro ξ m1 m2
  have hrx := m1.row hr
  rw [hrx 31 (by omega) (by omega)]
  refine ⟨zi _, ?_⟩
  by_cases h0 : s 31 = 0
  · rw [if_pos h0]
    refine bX8_widestStep_52 ⟨by rw [if_pos (by decide)]; exact zi _, fun _ => ?_, fun h => absurd (by rw [if_pos (by decide)]) h⟩
    have := hok hb _ (m1.tr (mst.rf (i := 74) (μ := ξ)).back)
    rw [WS_0 (by omega)] at this
    exact this
  · rw [if_neg h0, if_neg (by decide)]
    have loop : ∀ (n : Nat) (ζ : zMem), n ≤ 4 → mst 74 ξ ζ → (∀ μ', msc μ μ' → Q (WS s x1 (n + 1)) μ') → zX8_widestStep_52 (d + 5) Q x1 (gI ξ 55 74) (n : Int) 1 ζ := by
      intro n
      induction n with
      | zero =>
        intro ζ _ g1 g2
        refine bX8_widestStep_52 ⟨zi _, fun h => absurd h (by decide), fun _ => ?_⟩
        refine pX8_finds (s := fu s 74 ((0 : Nat) : Int)) (g1.row hrx) (wf_fu hw (by omega)) (g1.sp hw (by omega) m2) hb.1 hb.2 (by rw [fu_o (by decide)]; omega) ?_
        intro x μ' k1 k2 k3 k4 k5
        have g3 := (g1.w (v := ((0 : Nat) : Int))).f k1
        by_cases hx : x = -1
        · refine ⟨k4, ⟨fun _ => trivial, fun _ => zi _ (by rw [if_pos hx]; decide)⟩, ?_⟩
          rw [if_pos hx, if_neg (by decide), if_neg (by decide), if_pos (by decide)]
          refine bX8_widestStep_52 ⟨zi _, fun _ => ?_, fun h => absurd rfl h⟩
          have := g2 _ (m1.tr g3.back)
          unfold WS at this
          rw [if_pos (by rw [List.isEmpty_iff]; exact k5.mp hx)] at this
          exact this
        · refine ⟨k4, ⟨fun _ => trivial, fun h => absurd (by rw [if_neg hx]) h⟩, ?_⟩
          rw [if_neg hx, if_pos rfl, if_pos rfl]
          refine bX8_widestStep_52 ⟨zi _, fun _ => ?_, fun h => absurd rfl h⟩
          have := g2 _ (m1.tr g3.back)
          unfold WS at this
          rw [if_neg (by rw [List.isEmpty_iff]; exact fun q => hx (k5.mpr q))] at this
          rw [Int.sub_zero]
          exact this
      | succ n ih =>
        intro ζ hn4 g1 g2
        refine bX8_widestStep_52 ⟨zi _, fun h => absurd h (by decide), fun _ => ?_⟩
        refine pX8_finds (s := fu s 74 ((n + 1 : Nat) : Int)) (g1.row hrx) (wf_fu hw (by omega)) (g1.sp hw (by omega) m2) hb.1 hb.2 (by rw [fu_o (by decide)]; omega) ?_
        intro x μ' k1 k2 k3 k4 k5
        have g3 := (g1.w (v := ((n + 1 : Nat) : Int))).f k1
        by_cases hx : x = -1
        · refine ⟨k4, ⟨fun _ => trivial, fun _ => zi _ (by rw [if_pos hx, if_neg (by decide)]; omega)⟩, ?_⟩
          rw [if_pos hx, if_neg (by decide), if_neg (by decide), if_neg (by omega), show ((n + 1 : Nat) : Int) - 1 = (n : Int) by omega]
          refine ih μ' (by omega) g3 (fun μ'' w => ?_)
          have := g2 μ'' w
          rw [show WS s x1 (n + 1 + 1) = if (CLs (fu s 74 ((n + 1 : Nat) : Int)) x1).isEmpty = true then WS s x1 (n + 1) else ((n + 1 : Nat) : Int) from rfl, if_pos (by rw [List.isEmpty_iff]; exact k5.mp hx)] at this
          exact this
        · refine ⟨k4, ⟨fun _ => trivial, fun h => absurd (by rw [if_neg hx]) h⟩, ?_⟩
          rw [if_neg hx, if_pos rfl, if_pos rfl]
          refine bX8_widestStep_52 ⟨zi _, fun _ => ?_, fun h => absurd rfl h⟩
          have := g2 _ (m1.tr g3.back)
          rw [show WS s x1 (n + 1 + 1) = if (CLs (fu s 74 ((n + 1 : Nat) : Int)) x1).isEmpty = true then WS s x1 (n + 1) else ((n + 1 : Nat) : Int) from rfl, if_neg (by rw [List.isEmpty_iff]; exact fun q => hx (k5.mpr q))] at this
          rw [Int.sub_zero]
          exact this
    exact loop 4 ξ (by omega) mst.rf (fun μ' w => hok hb μ' w)
def TLV (s : Int → Int) (f : Int) : Nat → Int
  | 0 => 9
  | n + 1 => if FITV (fu s 81 (9 - ((n + 1 : Nat) : Int))) 12 = f then 9 - ((n + 1 : Nat) : Int) else TLV s f n
def TL (s : Int → Int) : Int := if FITV (fu s 81 9) 12 = -1 then -1 else TLV s (FITV (fu s 81 9) 12) 8
theorem pX8_tightestLimit {d : Nat} {Q : Int → zMem → Prop} {μ : zMem} {s : Int → Int} (hr : rowIs μ s) (hw : wf s) (hok : ∀ μ', msc μ μ' → Q (TL s) μ') : kX8_tightestLimit (d + 7) μ Q := by
  refine bX8_tightestLimit ?_
  refine pX8_findsSpans hr hw ?_
  intro ξ m1 m2
  have hrx := m1.row hr
  refine pX8_fits (s := fu s 81 9) ((mst.rf (i := 81)).row hrx) (wf_fu hw (by omega)) ((mst.rf (i := 81)).sp hw (by omega) m2) ?_
  intro ζ g1
  have b1 := FITV_bd (fu s 81 9) 12
  have g2 : mst 81 ξ ζ := ((mst.rf (i := 81)).w).f g1
  generalize hf : FITV (fu s 81 9) 12 = f at b1
  refine ⟨zi _, zi _, ?_⟩
  by_cases hf1 : f = -1
  · rw [if_pos hf1, if_pos hf1]
    refine bX8_tightestLimit_49 ⟨zi _, fun _ => ?_, fun h => absurd rfl h⟩
    have := hok _ (m1.tr g2.back)
    unfold TL at this
    rw [if_pos (by rw [hf]; exact hf1)] at this
    exact this
  · rw [if_neg hf1, if_neg hf1]
    have loop : ∀ (n : Nat) (χ : zMem), n ≤ 8 → mst 81 ξ χ → (∀ μ', msc μ μ' → Q (TLV s f n) μ') → zX8_tightestLimit_49 (d + 6) Q (gI ξ 55 81) f (9 - (n : Int)) 1 χ := by
      intro n
      induction n with
      | zero =>
        intro χ _ k1 k2
        refine bX8_tightestLimit_49 ⟨zi _, fun h => absurd h (by decide), fun _ => ?_⟩
        refine pX8_fits (s := fu s 81 (9 - ((0 : Nat) : Int))) (k1.row hrx) (wf_fu hw (by omega)) (k1.sp hw (by omega) m2) ?_
        intro μ' w1
        have e : FITV (fu s 81 (9 - ((0 : Nat) : Int))) 12 = f := hf
        rw [e]
        refine ⟨⟨zi _, zi _⟩, ?_⟩
        rw [if_pos rfl, if_pos rfl]
        refine bX8_tightestLimit_49 ⟨zi _, fun _ => ?_, fun h => absurd rfl h⟩
        exact k2 _ (m1.tr ((k1.w).f w1).back)
      | succ n ih =>
        intro χ hn8 k1 k2
        refine bX8_tightestLimit_49 ⟨zi _, fun h => absurd h (by decide), fun _ => ?_⟩
        refine pX8_fits (s := fu s 81 (9 - ((n + 1 : Nat) : Int))) (k1.row hrx) (wf_fu hw (by omega)) (k1.sp hw (by omega) m2) ?_
        intro μ' w1
        have b2 := FITV_bd (fu s 81 (9 - ((n + 1 : Nat) : Int))) 12
        refine ⟨⟨zi _, zi _⟩, ?_⟩
        by_cases e : FITV (fu s 81 (9 - ((n + 1 : Nat) : Int))) 12 = f
        · rw [if_pos e, if_pos rfl]
          refine bX8_tightestLimit_49 ⟨zi _, fun _ => ?_, fun h => absurd rfl h⟩
          have := k2 _ (m1.tr ((k1.w).f w1).back)
          unfold TLV at this
          rw [if_pos e] at this
          rw [Int.add_zero]
          exact this
        · rw [if_neg e, if_neg (by decide)]
          rw [show 9 - ((n + 1 : Nat) : Int) + 1 = 9 - (n : Int) by omega]
          refine ih μ' (by omega) ((k1.w).f w1) (fun μ'' w => ?_)
          have := k2 μ'' w
          unfold TLV at this
          rw [if_neg e] at this
          exact this
    refine loop 8 ζ (by omega) g2 (fun μ' w => ?_)
    have := hok μ' w
    unfold TL at this
    rw [hf, if_neg hf1] at this
    exact this
