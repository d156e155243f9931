/-! lays -/
theorem COL_bd {s : Int → Int} {b first st : Int} (hw : wf s) (b0 : 1 ≤ b) (b1 : b ≤ 12) (f0 : 0 ≤ first) : ∀ j : Nat, first + j < s 31 → st ≤ COL s b first st j ∧ COL s b first st j ≤ st + 260 * j
  | 0, _ => by simp [COL]
  | j + 1, h => by
    have ih := COL_bd (st := st) hw b0 b1 f0 j (by omega)
    have h1 := wd_bd hw b0 b1 (show 0 ≤ first + (j : Int) by omega) (by omega)
    have h2 := gp_bd hw b0 b1 (show 1 ≤ first + (j : Int) + 1 by omega) (by omega)
    unfold COL
    omega
def lV (s : Int → Int) (b l first k row : Int) (V : Int → Int) : Int → Int := fun i => if i = 7 * l then first else if i = 7 * l + 1 then k - first else if i = 7 * l + 2 then row else if i = 7 * l + 3 then lH s b first k else if i = 7 * l + 4 then lW s b first k else if i = 7 * l + 5 then SF s row (lH s b first k) else if i = 7 * l + 6 then lS s b first k row else V i
def lO (l first : Int) (O : Int → Int) : Int → Int := fun i => if first ≤ i then l else O i
/-- what stands in the model's memory behind l lines, that have the words before 'first' -/
def MD (s : Int → Int) (b l first lg : Int) (C U V O : Int → Int) (μ : zMem) : Prop := gI μ 54 7 = l ∧ gI μ 54 10 = lg ∧ (∀ i, 0 ≤ i → i < 7 * l → gI μ 59 i = V i) ∧ plc s b C O 0 first μ ∧ (∀ i, 0 ≤ i → i < first → gI μ 61 i = U i)
def PI (s : Int → Int) (l first pf lg : Int) (C U V O : Int → Int) : Prop := 0 ≤ l ∧ l ≤ first ∧ 0 ≤ pf ∧ pf ≤ first ∧ (0 < l → V (7 * (l - 1)) = pf ∧ pf < first) ∧ (l = 0 → pf = first) ∧ (∀ i, pf ≤ i → i < first → O i = l - 1) ∧ (∀ i, 0 ≤ i → i < first → 0 ≤ U i ∧ U i ≤ l) ∧ (∀ i, 0 ≤ i → i < first → -1 ≤ C i ∧ C i ≤ 9000) ∧ 0 ≤ lg ∧ lg ≤ s 81
theorem ind_bd {s : Int → Int} {sl : Int} (h : 0 ≤ sl) : 0 ≤ ind s sl ∧ ind s sl ≤ sl := by
  unfold ind
  split
  · omega
  · split <;> omega
theorem lC_bd {s C : Int → Int} {b first k row : Int} (hw : wf s) (b0 : 1 ≤ b) (b1 : b ≤ 12) (f0 : 0 ≤ first) (k1 : k ≤ s 31) (hs : 0 ≤ lS s b first k row) (hl : 0 ≤ lW s b first k) (hC : ∀ i, 0 ≤ i → i < first → -1 ≤ C i ∧ C i ≤ 9000) : ∀ i, 0 ≤ i → i < k → -1 ≤ lC s b first k row C i ∧ lC s b first k row C i ≤ 9000 := by
  intro i i0 ik
  unfold lC
  have hn := hw.2.2.1
  by_cases h : first ≤ i
  · rw [if_pos h]
    have h1 := COL_bd (st := SF s row (lH s b first k) + ind s (lS s b first k row)) hw b0 b1 f0 (i - first).toNat (by omega)
    have h2 := SL_bd s row (lH s b first k)
    have h3 := ind_bd (s := s) hs
    have h4 : lS s b first k row ≤ 48 := by
      unfold lS
      omega
    omega
  · rw [if_neg h]
    exact hC i i0 (by omega)
theorem PI_step {s C U V O : Int → Int} {b l first pf lg k row : Int} (h : PI s l first pf lg C U V O) (hw : wf s) (b0 : 1 ≤ b) (b1 : b ≤ 12) (fk : first < k) (k1 : k ≤ s 31) (ok : okL s b first k row pf C U = true) :
    PI s (l + 1) k first (mxG lg (Lg (lU s b (lC s b first k row C) U pf first) first (k - first - 1).toNat)) (lC s b first k row C) (lU s b (lC s b first k row C) U pf first) (lV s b l first k row V) (lO l first O) := by
  obtain ⟨p1, p2, p3, p4, p5, p6, p7, p8, p9, p10, p11⟩ := h
  rw [okL_iff] at ok
  have hl := LW_bd hw b0 b1 (show 0 ≤ first by omega) (k - first).toNat (by omega)
  refine ⟨by omega, by omega, by omega, by omega, fun _ => ⟨?_, fk⟩, fun h => by omega, fun i a c => ?_, lU_bd p1 p3 p4 p8, lC_bd hw b0 b1 (by omega) k1 ok.1.2 (by unfold lW; omega) p9, ?_, ?_⟩
  · rw [show l + 1 - 1 = l by omega]
    simp [lV]
  · unfold lO
    rw [if_pos a]
    omega
  · have := Lg_bd (U := lU s b (lC s b first k row C) U pf first) (first := first) (l := l + 1) (by omega) (k - first - 1).toNat (fun i hi => (lU_bd (k := k) p1 p3 p4 p8 (first + 1 + i) (by omega) (by omega)).2)
    unfold mxG
    split <;> omega
  · have := ok.2
    unfold mxG
    split <;> omega
theorem lH_bd {s : Int → Int} {b first k : Int} (hw : wf s) (b0 : 1 ≤ b) (b1 : b ≤ 12) (f0 : 0 ≤ first) (fk : first < k) (k1 : k ≤ s 31) : 1 ≤ lH s b first k ∧ lH s b first k ≤ 20 ∧ 1 ≤ lW s b first k ∧ lW s b first k ≤ 3640 := by
  have hn := hw.2.2.1
  have h1 := LH_bd hw b0 b1 f0 (k - first).toNat (by omega)
  have h2 := LW_bd hw b0 b1 f0 (k - first).toNat (by omega)
  unfold lH lW
  omega
theorem lays_close {d : Nat} {Q : Int → zMem → Prop} {μ : zMem} {s C U V O : Int → Int} {b c l first k row pf lg cost : Int} (hr : rowIs μ s) (hw : wf s) (hsp : spOK s μ) (b0 : 1 ≤ b) (b1 : b ≤ 12) (fk : first < k) (k1 : k ≤ s 31) (r0 : 0 ≤ row) (r1 : row ≤ 41) (hm : MD s b l first lg C U V O μ) (hp : PI s l first pf lg C U V O)
    (hbad : okL s b first k row pf C U ≠ true → ∀ μ', frl μ μ' → gI μ' 54 11 = gI μ 54 11 → Q (-1) μ')
    (hok : okL s b first k row pf C U = true → ∀ μ', frl μ μ' → gI μ' 54 11 = gI μ 54 11 → MD s b (l + 1) k (mxG lg (Lg (lU s b (lC s b first k row C) U pf first) first (k - first - 1).toNat)) (lC s b first k row C) (lU s b (lC s b first k row C) U pf first) (lV s b l first k row V) (lO l first O) μ' → zX8_lays_24 (d + 3) Q b c (cost + lS s b first k row * lS s b first k row) (row + (lH s b first k + s 79)) k μ') :
    zX8_lays_49 (d + 3) Q b c cost row k first (lH s b first k) (lW s b first k) 0 μ := by
  have hp' := hp
  obtain ⟨p1, p2, p3, p4, p5, p6, p7, p8, p9, p10, p11⟩ := hp
  obtain ⟨m1, m2, m3, m4, m5⟩ := hm
  have hn := hw.2.2.1
  have hlim := hw.2.2.2.2.2.2.2.2.2.2.2
  have hb := lH_bd hw b0 b1 (show 0 ≤ first by omega) fk k1
  refine bX8_lays_49 ⟨zi _, fun _ => ?_, fun h => absurd rfl h⟩
  refine ⟨zi _, fun hfit => ?_, fun hfit => hbad (fun q => hfit (okL_iff.mp q).1.1) μ frl.rf rfl⟩
  have e56 := (hsp row (lH s b first k) r0 hb.1 hfit).1
  have e57 := (hsp row (lH s b first k) r0 hb.1 hfit).2
  have hSL := SL_bd s row (lH s b first k)
  rw [e56, m1]
  rw [show SL s row (lH s b first k) - lW s b first k = lS s b first k row from rfl]
  have hSle : lS s b first k row ≤ 48 ∧ -4000 ≤ lS s b first k row := by
    unfold lS
    omega
  refine ⟨by omega, by omega, zi _, fun hs => ?_, fun hs => hbad (fun q => hs (okL_iff.mp q).1.2) μ frl.rf rfl⟩
  refine ⟨by omega, by omega, by omega, by omega, by omega, by omega, by omega, by omega, by omega, by omega, by omega, by omega, by omega, by omega, ?_⟩
  simp only [gI_sIn (show (57 : Nat) ≠ 59 by decide), gI_sIn (show (54 : Nat) ≠ 59 by decide)]
  rw [e57, m1]
  generalize hν : sI (sI (sI (sI (sI (sI (sI μ 59 (7 * l) first) 59 (7 * l + 1) (k - first)) 59 (7 * l + 2) row) 59 (7 * l + 3) (lH s b first k)) 59 (7 * l + 4) (lW s b first k)) 59 (7 * l + 5) (SF s row (lH s b first k))) 59 (7 * l + 6) (lS s b first k row) = ν
  have n1 : frl μ ν := by
    rw [← hν]
    exact ((((((frl.rf.sI (by omega)).sI (by omega)).sI (by omega)).sI (by omega)).sI (by omega)).sI (by omega)).sI (by omega)
  have n2 : ∀ q, q ≠ 59 → gI ν q = gI μ q := fun q hq => by
    rw [← hν]
    rw [gI_sIn hq, gI_sIn hq, gI_sIn hq, gI_sIn hq, gI_sIn hq, gI_sIn hq, gI_sIn hq]
  have n3 : ∀ i, 0 ≤ i → i < 7 * l + 7 → gI ν 59 i = lV s b l first k row V i := fun i a c' => by
    rw [← hν]
    unfold lV
    simp only [gI_sI, true_and]
    by_cases h6 : i = 7 * l + 6
    · rw [h6]
      repeat (first | rw [if_pos rfl] | rw [if_neg (by omega)])
    by_cases h5 : i = 7 * l + 5
    · rw [h5]
      repeat (first | rw [if_pos rfl] | rw [if_neg (by omega)])
    by_cases h4 : i = 7 * l + 4
    · rw [h4]
      repeat (first | rw [if_pos rfl] | rw [if_neg (by omega)])
    by_cases h3 : i = 7 * l + 3
    · rw [h3]
      repeat (first | rw [if_pos rfl] | rw [if_neg (by omega)])
    by_cases h2 : i = 7 * l + 2
    · rw [h2]
      repeat (first | rw [if_pos rfl] | rw [if_neg (by omega)])
    by_cases h1 : i = 7 * l + 1
    · rw [h1]
      repeat (first | rw [if_pos rfl] | rw [if_neg (by omega)])
    by_cases h0 : i = 7 * l
    · rw [h0]
      repeat (first | rw [if_pos rfl] | rw [if_neg (by omega)])
    simp only [h0, h1, h2, h3, h4, h5, h6, if_false]
    exact m3 i a (by omega)
  have v0 : lV s b l first k row V (7 * l) = first := by (unfold lV; repeat (first | rw [if_pos rfl] | rw [if_neg (by omega)]))
  have v1 : lV s b l first k row V (7 * l + 1) = k - first := by (unfold lV; repeat (first | rw [if_pos rfl] | rw [if_neg (by omega)]))
  have v5 : lV s b l first k row V (7 * l + 5) = SF s row (lH s b first k) := by (unfold lV; repeat (first | rw [if_pos rfl] | rw [if_neg (by omega)]))
  have v6 : lV s b l first k row V (7 * l + 6) = lS s b first k row := by (unfold lV; repeat (first | rw [if_pos rfl] | rw [if_neg (by omega)]))
  refine pX8_places (s := s) (first := first) (k := k) (st := SF s row (lH s b first k) + ind s (lS s b first k row)) (n1.row hr) hw b0 b1 p1 (by omega) (by omega) fk k1 (by rw [n3 _ (by omega) (by omega)]; exact v0) (by rw [n3 _ (by omega) (by omega)]; exact v1) (by rw [n3 _ (by omega) (by omega), v6]; omega) (by rw [n3 _ (by omega) (by omega), n3 _ (by omega) (by omega), v5, v6]) ?_
  intro ξ x1 x2 x3 x4
  have plcx : plc s b (lC s b first k row C) (lO l first O) 0 k ξ := by
    intro i a c'
    by_cases h : first ≤ i
    · have := x4 i h c'
      unfold lC lO
      rw [if_pos h, if_pos h]
      exact this
    · have := m4 i a (by omega)
      unfold lC lO
      rw [if_neg h, if_neg h, x3 _ (by omega), x3 _ (by omega), x3 _ (by omega), x3 _ (by omega), n2 60 (by decide)]
      exact this
  refine pX8_chainsUp (V := lV s b l first k row V) (C := lC s b first k row C) (U := U) (O := lO l first O) (l := l) (pf := pf) (lg := lg) hw b0 b1 p1 p2 fk k1 (by rw [x2 54 (by decide), n2 54 (by decide)]; exact m1) (by rw [x2 54 (by decide), n2 54 (by decide)]; exact m2) (by omega) (fun i a c' => by rw [x2 59 (by decide)]; exact n3 i a c') v0 p3 p4
    (fun hl => ⟨by
      have := (p5 hl).1
      unfold lV
      rw [if_neg (by omega), if_neg (by omega), if_neg (by omega), if_neg (by omega), if_neg (by omega), if_neg (by omega), if_neg (by omega)]
      exact this, (p5 hl).2⟩) p6 plcx (fun i a _ => by unfold lO; rw [if_pos a]) (fun i a c' => by unfold lO; rw [if_neg (by omega)]; exact p7 i a c') (fun i a c' => by rw [x2 61 (by decide), n2 61 (by decide)]; exact m5 i a c') p8 (lC_bd hw b0 b1 (by omega) k1 hs (by omega) p9) ?_
  intro ζ y1 y2 y3 y4 y5
  have f1 : frl μ ζ := (n1.tr x1).tr y1
  have e11 : gI ζ 54 11 = gI μ 54 11 := by rw [y3 11 (by decide), x2 54 (by decide), n2 54 (by decide)]
  have e81 : gI ζ 55 81 = s 81 := f1.row hr 81 (by omega) (by omega)
  have e79 : gI ζ 55 79 = s 79 := f1.row hr 79 (by omega) (by omega)
  have e7 : gI ζ 54 7 = l := by rw [y3 7 (by decide), x2 54 (by decide), n2 54 (by decide)]; exact m1
  have lgb := Lg_bd (U := lU s b (lC s b first k row C) U pf first) (first := first) (l := l + 1) (by omega) (k - first - 1).toNat (fun i hi => (lU_bd (k := k) p1 p3 p4 p8 (first + 1 + i) (by omega) (by omega)).2)
  have mgb : 0 ≤ mxG lg (Lg (lU s b (lC s b first k row C) U pf first) first (k - first - 1).toNat) ∧ mxG lg (Lg (lU s b (lC s b first k row C) U pf first) first (k - first - 1).toNat) ≤ 200 ∧ (mxG lg (Lg (lU s b (lC s b first k row C) U pf first) first (k - first - 1).toNat) ≤ s 81 ↔ Lg (lU s b (lC s b first k row C) U pf first) first (k - first - 1).toNat ≤ s 81) := by
    unfold mxG
    split <;> omega
  rw [y4, e81]
  refine ⟨zi _, zi _, fun hg => ?_, fun hg => hbad (fun q => hg (mgb.2.2.mpr (okL_iff.mp q).2)) ζ f1 e11⟩
  simp only [gI_sIn (show (55 : Nat) ≠ 54 by decide)]
  rw [e79, e7]
  refine hok (okL_iff.mpr ⟨⟨hfit, hs⟩, mgb.2.2.mp hg⟩) _ (f1.sI (by omega)) (by rw [gI_sIo (by decide)]; exact e11) ⟨gI_sIs, by rw [gI_sIo (by decide)]; exact y4, fun i a c' => ?_, fun i a c' => ?_, fun i a c' => ?_⟩
  · rw [gI_sIn (by decide), y2 59 (by decide) (by decide), x2 59 (by decide)]
    exact n3 i a (by omega)
  · rw [gI_sIn (by decide), y2 60 (by decide) (by decide)]
    exact plcx i a c'
  · rw [gI_sIn (by decide)]
    exact y5 i a c'
def FV (s : Int → Int) (b : Int) : List Int → Int → Int → Int → (Int → Int) → (Int → Int)
  | [], _, _, _, V => V
  | e :: es, l, first, row, V => FV s b es (l + 1) e (row + (lH s b first e + s 79)) (lV s b l first e row V)
def FO : List Int → Int → Int → (Int → Int) → (Int → Int)
  | [], _, _, O => O
  | e :: es, l, first, O => FO es (l + 1) e (lO l first O)
def FC (s : Int → Int) (b : Int) : List Int → Int → Int → (Int → Int) → (Int → Int)
  | [], _, _, C => C
  | e :: es, first, row, C => FC s b es e (row + (lH s b first e + s 79)) (lC s b first e row C)
def FU (s : Int → Int) (b : Int) : List Int → Int → Int → Int → (Int → Int) → (Int → Int) → (Int → Int)
  | [], _, _, _, _, U => U
  | e :: es, first, row, pf, C, U => FU s b es e (row + (lH s b first e + s 79)) first (lC s b first e row C) (lU s b (lC s b first e row C) U pf first)
def FG (s : Int → Int) (b : Int) : List Int → Int → Int → Int → Int → (Int → Int) → (Int → Int) → Int
  | [], _, _, _, lg, _, _ => lg
  | e :: es, first, row, pf, lg, C, U => FG s b es e (row + (lH s b first e + s 79)) first (mxG lg (Lg (lU s b (lC s b first e row C) U pf first) first (e - first - 1).toNat)) (lC s b first e row C) (lU s b (lC s b first e row C) U pf first)
def FL : List Int → Int → Int
  | [], l => l
  | _ :: es, l => FL es (l + 1)
theorem lW_s {s : Int → Int} {b first k : Int} (fk : first ≤ k) : lW s b first (k + 1) = lW s b first k + (wd s b k + (if k = first then 0 else gp s b k)) ∧ lH s b first (k + 1) = if sz s b k ≤ lH s b first k then lH s b first k else sz s b k := by
  unfold lW lH
  have e : (k + 1 - first).toNat = (k - first).toNat + 1 := by omega
  have e2 : first + ((k - first).toNat : Int) = k := by omega
  rw [e]
  constructor
  · show LW s b first (k - first).toNat + (wd s b (first + ((k - first).toNat : Int)) + (if (k - first).toNat = 0 then 0 else gp s b (first + ((k - first).toNat : Int)))) = _
    rw [e2]
    by_cases h : k = first
    · rw [if_pos h, if_pos (by omega)]
    · rw [if_neg h, if_neg (by omega)]
  · show (if sz s b (first + ((k - first).toNat : Int)) ≤ LH s b first (k - first).toNat then LH s b first (k - first).toNat else sz s b (first + ((k - first).toNat : Int))) = _
    rw [e2]
theorem lays_main {d : Nat} {Q : Int → zMem → Prop} {μ : zMem} {s : Int → Int} {b : Int} {c : Nat} (hr : rowIs μ s) (hw : wf s) (hsp : spOK s μ) (b0 : 1 ≤ b) (b1 : b ≤ 12) (hc : c < 2 ^ 13) :
    ∀ (r : Nat) (l first k row pf lg cost : Int) (C U V O : Int → Int) (ξ : zMem), s 31 - 1 - k = r → first ≤ k → frl μ ξ → MD s b l first lg C U V O ξ → PI s l first pf lg C U V O → 0 ≤ row → row ≤ 41 →
    (evc s b c r first row pf C U = none → ∀ (μ' : zMem) (f : Int), frl μ μ' → gI μ' 54 11 = f → k < f → f ≤ s 31 → (∀ c' : Nat, (∀ i : Nat, s 31 - 1 - f ≤ (i : Int) → c'.testBit i = c.testBit i) → evc s b c' r first row pf C U = none) → Q (-1) μ') →
    (∀ v es, evc s b c r first row pf C U = some (v, es) → ∀ μ' : zMem, frl μ μ' → MD s b (FL es l) (s 31) (FG s b es first row pf lg C U) (FC s b es first row C) (FU s b es first row pf C U) (FV s b es l first row V) (FO es l first O) μ' → Q (cost + v) μ') →
    zX8_lays_49 (d + 3) Q b c cost row k first (lH s b first k) (lW s b first k) 1 ξ := by
  have hn := hw.2.2.1
  intro r
  induction r with
  | zero =>
    intro l first k row pf lg cost C U V O ξ hrk fk hf hm hp r0 r1 hN hS
    have hp' := hp
    obtain ⟨p1, p2, p3, p4, p5, p6, p7, p8, p9, p10, p11⟩ := hp
    have hrx := hf.row hr
    have h31 : gI ξ 55 31 = s 31 := hrx 31 (by omega) (by omega)
    have sb := sz_bd hw b0 b1 (show 0 ≤ k by omega) (show k < s 31 by omega)
    have lws := lW_s (s := s) (b := b) fk
    have lhb := LH_bd hw b0 b1 (show 0 ≤ first by omega) (k - first).toNat (by omega)
    have go : ∀ g, g = (if k = first then 0 else gp s b k) → zX8_lays_100 (d + 3) Q b c cost row k first (lH s b first k) (sz s b k) g (s (32 + 3 * k + 0) * sz s b k) (lW s b first k) ξ := by
      intro g hg
      refine bX8_lays_100 ⟨⟨zi _, zi _ (by unfold lH; omega)⟩, zi _, ?_⟩
      rw [h31]
      refine ⟨zi _, fun _ => ?_, fun h => absurd (by omega) h⟩
      rw [← lws.2, show lW s b first k + (s (32 + 3 * k + 0) * sz s b k + g) = lW s b first (k + 1) by rw [lws.1, hg]; rfl]
      have ek : k + 1 = s 31 := by omega
      have g1 : frl μ (sI ξ 54 11 (k + 1)) := hf.sI (by omega)
      have gm : MD s b l first lg C U V O (sI ξ 54 11 (k + 1)) := ⟨by rw [gI_sIo (by decide)]; exact hm.1, by rw [gI_sIo (by decide)]; exact hm.2.1, fun i a e => by rw [gI_sIn (by decide)]; exact hm.2.2.1 i a e, fun i a e => by rw [gI_sIn (by decide)]; exact hm.2.2.2.1 i a e, fun i a e => by rw [gI_sIn (by decide)]; exact hm.2.2.2.2 i a e⟩
      refine lays_close (g1.row hr) hw (g1.sp hsp) b0 b1 (by omega) (by omega) r0 r1 gm hp' (fun hb μ' f1 f2 => ?_) (fun ho μ' f1 f2 f3 => ?_)
      · rw [ek] at hb
        have nn : ∀ c' : Nat, evc s b c' 0 first row pf C U = none := fun c' => by
          unfold evc
          rw [if_neg hb]
        exact hN (nn c) μ' (s 31) (g1.tr f1) (by rw [f2, gI_sIs]; exact ek) (by omega) (by omega) (fun c' _ => nn c')
      · have h31' : gI μ' 55 31 = s 31 := (g1.tr f1).row hr 31 (by omega) (by omega)
        refine bX8_lays_24 ⟨zi _, by rw [h31']; exact zi _, fun _ => ?_, fun h => absurd (by rw [h31']; omega) h⟩
        rw [ek] at ho f3 ⊢
        refine hS _ _ (by unfold evc; rw [if_pos ho]) μ' (g1.tr f1) ?_
        exact f3
    refine bX8_lays_49 ⟨zi _, fun h => absurd h (by decide), fun _ => ?_⟩
    refine pX8_sizeOf hrx (by omega) (by omega) ?_
    refine pX8_of hrx (by omega) (by omega) (by omega) (by omega) ⟨zi _, zi _, fun h => ?_, fun h => ?_⟩
    · exact go 0 (by rw [if_pos (by omega)])
    · have sb' := sz_bd hw b0 b1 (show 0 ≤ k - 1 by omega) (show k - 1 < s 31 by omega)
      refine pX8_sizeOf hrx (by omega) (by omega) ?_
      refine pX8_least (zi _) (zi _) ?_
      exact go _ (by rw [if_neg (by omega)])
  | succ r ih =>
    intro l first k row pf lg cost C U V O ξ hrk fk hf hm hp r0 r1 hN hS
    have hp' := hp
    obtain ⟨p1, p2, p3, p4, p5, p6, p7, p8, p9, p10, p11⟩ := hp
    have hrx := hf.row hr
    have h31 : gI ξ 55 31 = s 31 := hrx 31 (by omega) (by omega)
    have sb := sz_bd hw b0 b1 (show 0 ≤ k by omega) (show k < s 31 by omega)
    have lws := lW_s (s := s) (b := b) fk
    have lhb := LH_bd hw b0 b1 (show 0 ≤ first by omega) (k - first).toNat (by omega)
    have ek : s 31 - ((r : Int) + 1) = k + 1 := by omega
    have mkb := hw.2.2.2.1 (k + 1) (by omega) (by omega)
    have go : ∀ g, g = (if k = first then 0 else gp s b k) → zX8_lays_100 (d + 3) Q b c cost row k first (lH s b first k) (sz s b k) g (s (32 + 3 * k + 0) * sz s b k) (lW s b first k) ξ := by
      intro g hg
      refine bX8_lays_100 ⟨⟨zi _, zi _ (by unfold lH; omega)⟩, zi _, ?_⟩
      rw [h31]
      refine ⟨zi _, fun h => absurd h (by omega), fun _ => ?_⟩
      rw [← lws.2, show lW s b first k + (s (32 + 3 * k + 0) * sz s b k + g) = lW s b first (k + 1) by rw [lws.1, hg]; rfl]
      refine pX8_breaks (r := r) (by omega) (by omega) (by rw [h31]; omega) (by omega) hc ⟨b2_in _, ?_⟩
      have g1 : frl μ (sI ξ 54 11 (k + 1)) := hf.sI (by omega)
      have gm : MD s b l first lg C U V O (sI ξ 54 11 (k + 1)) := ⟨by rw [gI_sIo (by decide)]; exact hm.1, by rw [gI_sIo (by decide)]; exact hm.2.1, fun i a e => by rw [gI_sIn (by decide)]; exact hm.2.2.1 i a e, fun i a e => by rw [gI_sIn (by decide)]; exact hm.2.2.2.1 i a e, fun i a e => by rw [gI_sIn (by decide)]; exact hm.2.2.2.2 i a e⟩
      by_cases hbit : c.testBit r = true
      · have eb : b2 (c.testBit r = true) = 1 := b2_1.mpr hbit
        rw [eb]
        refine ⟨fun _ => ?_, fun h => absurd rfl h⟩
        rw [if_neg (by decide)]
        refine lays_close (g1.row hr) hw (g1.sp hsp) b0 b1 (by omega) (by omega) r0 r1 gm hp' (fun hb μ' f1 f2 => ?_) (fun ho μ' f1 f2 f3 => ?_)
        · have nn : ∀ c' : Nat, c'.testBit r = true → evc s b c' (r + 1) first row pf C U = none := fun c' hc' => by
            rw [evc_s, if_pos hc', ek, if_neg hb]
          refine hN (nn c hbit) μ' (k + 1) (g1.tr f1) (by rw [f2, gI_sIs]) (by omega) (by omega) (fun c' hc' => nn c' ?_)
          rw [hc' r (by omega)]
          exact hbit
        · have h31' : gI μ' 55 31 = s 31 := (g1.tr f1).row hr 31 (by omega) (by omega)
          have hpn := PI_step (V := V) (O := O) hp' hw b0 b1 (show first < k + 1 by omega) (by omega) ho
          have lhb2 := lH_bd hw b0 b1 (show 0 ≤ first by omega) (show first < k + 1 by omega) (by omega)
          have hfit := (okL_iff.mp ho).1.1
          have hlead := hw.2.2.2.2.2.2.2.2.2.1
          have ev : ∀ c' : Nat, c'.testBit r = true → evc s b c' (r + 1) first row pf C U = (evc s b c' r (k + 1) (row + (lH s b first (k + 1) + s 79)) first (lC s b first (k + 1) row C) (lU s b (lC s b first (k + 1) row C) U pf first)).map (fun e => (lS s b first (k + 1) row * lS s b first (k + 1) row + e.1, (k + 1) :: e.2)) := fun c' hc' => by
            rw [evc_s, if_pos hc', ek, if_pos ho]
          refine bX8_lays_24 ⟨zi _, by rw [h31']; exact zi _, fun h => absurd h (by rw [h31']; omega), fun _ => ?_⟩
          have hz : lH s b (k + 1) (k + 1) = 0 ∧ lW s b (k + 1) (k + 1) = 0 := by
            unfold lH lW
            rw [show (k + 1 - (k + 1)).toNat = 0 by omega]
            exact ⟨rfl, rfl⟩
          have hih := ih (l + 1) (k + 1) (k + 1) (row + (lH s b first (k + 1) + s 79)) first _ (cost + lS s b first (k + 1) row * lS s b first (k + 1) row) _ _ _ _ μ' (by omega) (Int.le_refl _) (g1.tr f1) f3 hpn (by omega) (by omega)
            (fun hnone μ'' f h1 h2 h3 h4 h5 => hN (by rw [ev c hbit, hnone]; rfl) μ'' f h1 h2 (by omega) h4 (fun c' hc' => by
              rw [ev c' (by rw [hc' r (by omega)]; exact hbit), h5 c' hc']
              rfl))
            (fun v es hsome μ'' h1 h2 => by
              have := hS (lS s b first (k + 1) row * lS s b first (k + 1) row + v) ((k + 1) :: es) (by rw [ev c hbit, hsome]; rfl) μ'' h1 h2
              rw [← Int.add_assoc] at this
              exact this)
          rw [hz.1, hz.2] at hih
          exact hih
      · have eb : b2 (c.testBit r = true) = 0 := b2_0.mpr hbit
        rw [eb]
        refine ⟨fun h => absurd h (by decide), fun _ => ?_⟩
        have ev : ∀ c' : Nat, ¬ c'.testBit r = true → evc s b c' (r + 1) first row pf C U = if s (32 + 3 * (k + 1) + 2) = 0 then evc s b c' r first row pf C U else none := fun c' hc' => by
          rw [evc_s, if_neg hc', ek]
        refine pX8_of (g1.row hr) (by omega) (by omega) (by omega) (by omega) ⟨zi _, fun hmk => ?_, fun hmk => ?_⟩
        · have nn : ∀ c' : Nat, ¬ c'.testBit r = true → evc s b c' (r + 1) first row pf C U = none := fun c' hc' => by
            rw [ev c' hc', if_neg (by omega)]
          refine hN (nn c hbit) _ (k + 1) g1 gI_sIs (by omega) (by omega) (fun c' hc' => nn c' ?_)
          rw [hc' r (by omega)]
          exact hbit
        · rw [if_pos rfl]
          have ev' : ∀ c' : Nat, ¬ c'.testBit r = true → evc s b c' (r + 1) first row pf C U = evc s b c' r first row pf C U := fun c' hc' => by
            rw [ev c' hc', if_pos (by omega)]
          refine ih l first (k + 1) row pf lg cost C U V O _ (by omega) (by omega) g1 gm hp' r0 r1
            (fun hnone μ'' f h1 h2 h3 h4 h5 => hN (by rw [ev' c hbit]; exact hnone) μ'' f h1 h2 (by omega) h4 (fun c' hc' => by
              rw [ev' c' (by rw [hc' r (by omega)]; exact hbit)]
              exact h5 c' hc'))
            (fun v es hsome μ'' h1 h2 => hS v es (by rw [ev' c hbit]; exact hsome) μ'' h1 h2)
    refine bX8_lays_49 ⟨zi _, fun h => absurd h (by decide), fun _ => ?_⟩
    refine pX8_sizeOf hrx (by omega) (by omega) ?_
    refine pX8_of hrx (by omega) (by omega) (by omega) (by omega) ⟨zi _, zi _, fun h => ?_, fun h => ?_⟩
    · exact go 0 (by rw [if_pos (by omega)])
    · have sb' := sz_bd hw b0 b1 (show 0 ≤ k - 1 by omega) (show k - 1 < s 31 by omega)
      refine pX8_sizeOf hrx (by omega) (by omega) ?_
      refine pX8_least (zi _) (zi _) ?_
      exact go _ (by rw [if_neg (by omega)])
def c0 : Int → Int := fun _ => 0
theorem PI_0 {s : Int → Int} (hw : wf s) : PI s 0 0 0 0 c0 c0 c0 c0 := by
  have := hw.2.2.2.2.2.2.2.2.2.2.2
  exact ⟨by omega, by omega, by omega, by omega, fun h => by omega, fun _ => rfl, fun i a c => by omega, fun i a c => by omega, fun i a c => by omega, by omega, by omega⟩
theorem pX8_lays {d : Nat} {Q : Int → zMem → Prop} {μ : zMem} {s : Int → Int} {b : Int} {c r : Nat} (hr : rowIs μ s) (hw : wf s) (hsp : spOK s μ) (b0 : 1 ≤ b) (b1 : b ≤ 12) (hc : c < 2 ^ 13) (hrr : s 31 - 1 = r)
    (hN : evc s b c r 0 (s 78) 0 c0 c0 = none → ∀ (μ' : zMem) (f : Int), frl μ μ' → gI μ' 54 11 = f → 0 < f → f ≤ s 31 → (∀ c' : Nat, (∀ i : Nat, s 31 - 1 - f ≤ (i : Int) → c'.testBit i = c.testBit i) → evc s b c' r 0 (s 78) 0 c0 c0 = none) → Q (-1) μ')
    (hS : ∀ v es, evc s b c r 0 (s 78) 0 c0 c0 = some (v, es) → ∀ μ' : zMem, frl μ μ' → MD s b (FL es 0) (s 31) (FG s b es 0 (s 78) 0 0 c0 c0) (FC s b es 0 (s 78) c0) (FU s b es 0 (s 78) 0 c0 c0) (FV s b es 0 0 (s 78) c0) (FO es 0 0 c0) μ' → Q v μ') : kX8_lays (d + 4) b c μ Q := by
  have hn := hw.2.2.1
  have htop := hw.2.2.2.2.2.2.2.2.1
  refine bX8_lays ?_
  have g1 : frl μ (sI (sI μ 54 7 0) 54 10 0) := (frl.rf.sI (by omega)).sI (by omega)
  have h78 := g1.row hr 78 (by omega) (by omega)
  have h31 := g1.row hr 31 (by omega) (by omega)
  rw [h78]
  refine bX8_lays_24 ⟨zi _, by rw [h31]; exact zi _, fun h => absurd h (by rw [h31]; omega), fun _ => ?_⟩
  refine lays_main hr hw hsp b0 b1 hc r 0 0 0 (s 78) 0 0 0 c0 c0 c0 c0 _ (by omega) (Int.le_refl _) g1 ⟨by rw [gI_sIo (by decide), gI_sIs], gI_sIs, fun i a e => by omega, fun i a e => by omega, fun i a e => by omega⟩ (PI_0 hw) (by omega) (by omega) hN (fun v es h1 μ' h2 h3 => ?_)
  rw [Int.zero_add]
  exact hS v es h1 μ' h2 h3
