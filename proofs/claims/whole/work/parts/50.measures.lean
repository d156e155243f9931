/-! the class's measures -/
/-- only the search's own places change -/
def scf (μ μ' : zMem) : Prop := gD μ' = gD μ ∧ gR μ' = gR μ ∧ gL μ' = gL μ ∧ ∀ q, ¬ (11 ≤ q ∧ q ≤ 29) → gI μ' q = gI μ q
theorem scf.rf {μ : zMem} : scf μ μ := ⟨rfl, rfl, rfl, fun _ _ => rfl⟩
theorem scf.tr {μ μ' μ'' : zMem} (h : scf μ μ') (h' : scf μ' μ'') : scf μ μ'' := ⟨h'.1.trans h.1, h'.2.1.trans h.2.1, h'.2.2.1.trans h.2.2.1, fun q a => (h'.2.2.2 q a).trans (h.2.2.2 q a)⟩
theorem scf.w {μ μ' : zMem} {p : Nat} {i v : Int} (h : scf μ μ') (hp : 11 ≤ p ∧ p ≤ 29) : scf μ (sI μ' p i v) := ⟨h.1, h.2.1, h.2.2.1, fun q a => by rw [gI_sIn (by omega)]; exact h.2.2.2 q a⟩
/-- only the measures change -/
def mef (μ μ' : zMem) : Prop := scf μ μ' ∧ ∀ q, ¬ (16 ≤ q ∧ q ≤ 22) → gI μ' q = gI μ q
theorem mef.rf {μ : zMem} : mef μ μ := ⟨scf.rf, fun _ _ => rfl⟩
theorem mef.tr {μ μ' μ'' : zMem} (h : mef μ μ') (h' : mef μ' μ'') : mef μ μ'' := ⟨h.1.tr h'.1, fun q a => (h'.2 q a).trans (h.2 q a)⟩
theorem mef.w {μ μ' : zMem} {p : Nat} {i v : Int} (h : mef μ μ') (hp : 16 ≤ p ∧ p ≤ 22) : mef μ (sI μ' p i v) := ⟨h.1.w (by omega), fun q a => by rw [gI_sIn (by omega)]; exact h.2 q a⟩
/-- words and settings of the present State, but step and limit -/
def WST (s : Int → Int) (μ : zMem) : Prop := gI μ 1 1 = s 31 ∧ (∀ i, 0 ≤ i → i < 3 * s 31 → gI μ 5 i = s (32 + i)) ∧ ∀ i, 1 ≤ i → i < 7 → gI μ 6 i = s (74 + i)
def isLE (s : Int → Int) (i e : Int) : Prop := i < e ∧ e ≤ s 31 ∧ (∀ k, i < k → k < e → s (32 + 3 * k + 2) = 0) ∧ (e < s 31 → s (32 + 3 * e + 2) ≠ 0)
def ME1 (s : Int → Int) (b n : Int) (μ : zMem) : Prop := gI μ 16 0 = s 31 ∧ ∀ i, 0 ≤ i → i < n → gI μ 17 i = sz s b i ∧ gI μ 18 i = wd s b i ∧ gI μ 19 i = (if i = 0 then 0 else gp s b i)
def MEA (s : Int → Int) (b : Int) (μ : zMem) : Prop := ME1 s b (s 31) μ ∧ (∀ i, 0 ≤ i → i < s 31 → isLE s i (gI μ 20 i)) ∧ ∀ i k, 0 ≤ i → i < k → k ≤ s 31 → gI μ 21 (i * 14 + k - 1) = lW s b i k ∧ gI μ 22 (i * 14 + k - 1) = lH s b i k
theorem pX5_part {d : Nat} {Q : Int → zMem → Prop} {μ : zMem} {s : Int → Int} {k w : Int} (hw : wf s) (h : WST s μ) (k0 : 0 ≤ k) (k1 : k < s 31) (w0 : 0 ≤ w) (w1 : w < 3) (hQ : Q (s (32 + 3 * k + w)) μ) : kX5_partOfWord d k w μ Q := by
  have hn := hw.2.2.1
  refine bX5_partOfWord ⟨by omega, by omega, ?_⟩
  rw [h.2.1 _ (by omega) (by omega), show 32 + (k * 3 + w) = 32 + 3 * k + w by omega]
  exact hQ
theorem mef.ws {s : Int → Int} {μ μ' : zMem} (h : mef μ μ') (hs : WST s μ) : WST s μ' := ⟨by rw [h.2 1 (by omega)]; exact hs.1, by rw [h.2 5 (by omega)]; exact hs.2.1, by rw [h.2 6 (by omega)]; exact hs.2.2⟩
theorem pX3_findLastEnds {d : Nat} {Q : zMem → Prop} {μ : zMem} {s : Int → Int} {b : Int} (hw : wf s) (hs : WST s μ) (hm : ME1 s b (s 31) μ) (hQ : ∀ μ', mef μ μ' → ME1 s b (s 31) μ' → (∀ i, 0 ≤ i → i < s 31 → isLE s i (gI μ' 20 i)) → Q μ') : kX3_findLastEnds (d + 1) μ Q := by
  have hn := hw.2.2.1
  refine bX3_findLastEnds ?_
  rw [hm.1]
  have loop : ∀ (n : Nat) (e : Int) (ξ : zMem), (n : Int) ≤ s 31 → mef μ ξ → ME1 s b (s 31) ξ → (n : Int) - 1 < e → e ≤ s 31 → (∀ k, (n : Int) - 1 < k → k < e → s (32 + 3 * k + 2) = 0) → (e < s 31 → s (32 + 3 * e + 2) ≠ 0) → (∀ i, (n : Int) ≤ i → i < s 31 → isLE s i (gI ξ 20 i)) → zX3_findLastEnds_12 d Q e ((n : Int) - 1) ξ := by
    intro n
    induction n with
    | zero =>
      intro e ξ h0 h1 h2 h3 h4 h5 h6 h7
      exact bX3_findLastEnds_12 ⟨zi _, fun _ => hQ ξ h1 h2 (fun i a c => h7 i (by omega) c), fun q => absurd (by omega) q⟩
    | succ n ih =>
      intro e ξ h0 h1 h2 h3 h4 h5 h6 h7
      rw [show ((n + 1 : Nat) : Int) - 1 = (n : Int) by omega] at h3 h5 ⊢
      have h1' : mef μ (sI ξ 20 n e) := h1.w (by omega)
      refine bX3_findLastEnds_12 ⟨zi _, fun q => absurd q (by omega), fun _ => ⟨by omega, by omega, ?_⟩⟩
      have mk := hw.2.2.2.1 n (by omega) (by omega)
      refine pX5_part (s := s) hw (h1'.ws hs) (by omega) (by omega) (by omega) (by omega) ⟨zi _, ?_⟩
      have hm2 : ME1 s b (s 31) (sI ξ 20 n e) := ⟨by rw [gI_sIn (by decide)]; exact h2.1, fun i a c => by rw [gI_sIn (by decide), gI_sIn (by decide), gI_sIn (by decide)]; exact h2.2 i a c⟩
      have h7' : ∀ i, (n : Int) ≤ i → i < s 31 → isLE s i (gI (sI ξ 20 n e) 20 i) := fun i a c => by
        by_cases g : i = n
        · rw [g, gI_sIs]
          exact ⟨h3, h4, h5, h6⟩
        · rw [gI_sIo g]
          exact h7 i (by omega) c
      rw [show (n : Int) + -1 = (n : Int) - 1 by omega]
      by_cases z : s (32 + 3 * (n : Int) + 2) = 0
      · rw [if_pos z]
        refine ih e _ (by omega) h1' hm2 (by omega) h4 (fun k a c => ?_) h6 h7'
        by_cases g : k = n
        · rw [g]; exact z
        · exact h5 k (by omega) c
      · rw [if_neg z]
        exact ih n _ (by omega) h1' hm2 (by omega) (by omega) (fun k a c => by omega) (fun _ => z) h7'
  have h0 := loop (s 31).toNat (s 31) μ (by omega) mef.rf hm (by omega) (by omega) (fun k a c => by omega) (fun q => by omega) (fun i a c => by omega)
  rw [show ((s 31).toNat : Int) - 1 = s 31 - 1 by omega] at h0
  exact h0
theorem pX3_measureLines {d : Nat} {Q : zMem → Prop} {μ : zMem} {s : Int → Int} {b : Int} (hw : wf s) (b0 : 1 ≤ b) (b1 : b ≤ 12) (hm : ME1 s b (s 31) μ) (hl : ∀ i, 0 ≤ i → i < s 31 → isLE s i (gI μ 20 i)) (hQ : ∀ μ', mef μ μ' → MEA s b μ' → Q μ') : kX3_measureLines (d + 1) μ Q := by
  have hn := hw.2.2.1
  refine bX3_measureLines ?_
  have st : ∀ {ξ : zMem} {i v i' v' : Int}, (mef μ ξ ∧ ME1 s b (s 31) ξ ∧ gI ξ 20 = gI μ 20) → (mef μ (sI (sI ξ 21 i v) 22 i' v') ∧ ME1 s b (s 31) (sI (sI ξ 21 i v) 22 i' v') ∧ gI (sI (sI ξ 21 i v) 22 i' v') 20 = gI μ 20) := fun {ξ i v i' v'} h => ⟨(h.1.w (by omega)).w (by omega), ⟨by rw [gI_sIn (by decide), gI_sIn (by decide)]; exact h.2.1.1, fun j a c => by rw [gI_sIn (by decide), gI_sIn (by decide), gI_sIn (by decide), gI_sIn (by decide), gI_sIn (by decide), gI_sIn (by decide)]; exact h.2.1.2 j a c⟩, by rw [gI_sIn (by decide), gI_sIn (by decide)]; exact h.2.2⟩
  have outer : ∀ (n : Nat) (i : Int) (ξ : zMem), i + n = s 31 → 0 ≤ i → (mef μ ξ ∧ ME1 s b (s 31) ξ ∧ gI ξ 20 = gI μ 20) → (∀ j k, 0 ≤ j → j < i → j < k → k ≤ s 31 → gI ξ 21 (j * 14 + k - 1) = lW s b j k ∧ gI ξ 22 (j * 14 + k - 1) = lH s b j k) → zX3_measureLines_2 d Q i ξ := by
    intro n
    induction n with
    | zero =>
      intro i ξ h0 i0 h1 h2
      refine bX3_measureLines_2 ⟨zi _, by rw [h1.2.1.1]; exact zi _, fun _ => hQ ξ h1.1 ⟨h1.2.1, by rw [h1.2.2]; exact hl, fun j k a c e => h2 j k a (by omega) c e⟩, fun q => absurd (by rw [h1.2.1.1]; omega) q⟩
    | succ n ih =>
      intro i ξ h0 i0 h1 h2
      refine bX3_measureLines_2 ⟨zi _, by rw [h1.2.1.1]; exact zi _, fun q => absurd q (by rw [h1.2.1.1]; omega), fun _ => ⟨by omega, by omega, ?_⟩⟩
      have inner : ∀ (m : Nat) (k w hgt : Int) (ζ : zMem), k + m = s 31 → i ≤ k → (k = i → w = wd s b i ∧ hgt = sz s b i) → (i < k → w = lW s b i k ∧ hgt = lH s b i k) → (mef μ ζ ∧ ME1 s b (s 31) ζ ∧ gI ζ 20 = gI μ 20) → (∀ j k, 0 ≤ j → j < i → j < k → k ≤ s 31 → gI ζ 21 (j * 14 + k - 1) = lW s b j k ∧ gI ζ 22 (j * 14 + k - 1) = lH s b j k) → (∀ k', i < k' → k' ≤ k → gI ζ 21 (i * 14 + k' - 1) = lW s b i k' ∧ gI ζ 22 (i * 14 + k' - 1) = lH s b i k') → zX3_measureLines_27 d Q i w hgt k ζ := by
        intro m
        induction m with
        | zero =>
          intro k w hgt ζ g0 g1 g2 g3 g4 g5 g6
          refine bX3_measureLines_27 ⟨zi _, by rw [g4.2.1.1]; exact zi _, fun _ => ih (i + 1) ζ (by omega) (by omega) g4 (fun j k' a c e1 e2 => ?_), fun q => absurd (by rw [g4.2.1.1]; omega) q⟩
          by_cases g : j = i
          · rw [g]; exact g6 k' (by omega) (by omega)
          · exact g5 j k' a (by omega) e1 e2
        | succ m ihm =>
          intro k w hgt ζ g0 g1 g2 g3 g4 g5 g6
          have mk := g4.2.1.2 k (by omega) (by omega)
          have sb := sz_bd hw b0 b1 (show 0 ≤ k by omega) (by omega)
          have lws := lW_s (s := s) (b := b) g1
          have lhb := LH_bd hw b0 b1 i0 (k - i).toNat (by omega)
          have hb : zIn hgt := by
            by_cases e : k = i
            · rw [(g2 e).2, ← e]; exact zi _
            · rw [(g3 (by omega)).2]; exact zi _ (by unfold lH; omega)
          refine bX3_measureLines_27 ⟨zi _, by rw [g4.2.1.1]; exact zi _, fun q => absurd q (by rw [g4.2.1.1]; omega), fun _ => ⟨⟨zi _, fun _ => trivial, fun _ => ⟨by omega, by omega, hb, by rw [mk.1]; exact zi _⟩⟩, by omega, by omega, ?_⟩⟩
          have eW : (if k ≤ i then w else w + (gI ζ 19 k + gI ζ 18 k)) = lW s b i (k + 1) := by
            by_cases e : k = i
            · rw [if_pos (by omega), (g2 e).1, lws.1, if_pos e, e]
              have : lW s b i i = 0 := by
                unfold lW
                rw [show (i - i).toNat = 0 by omega]
                rfl
              omega
            · rw [if_neg (by omega), (g3 (by omega)).1, mk.2.1, mk.2.2, if_neg (by omega), lws.1, if_neg e]
              omega
          have eH : (if k ≤ i then hgt else if hgt < gI ζ 17 k then gI ζ 17 k else hgt) = lH s b i (k + 1) := by
            by_cases e : k = i
            · rw [if_pos (by omega), (g2 e).2, lws.2, e]
              have : lH s b i i = 0 := by
                unfold lH
                rw [show (i - i).toNat = 0 by omega]
                rfl
              rw [this]
              rw [e] at sb
              rw [if_neg (by omega)]
            · rw [if_neg (by omega), (g3 (by omega)).2, mk.1, lws.2]
              split <;> split <;> omega
          rw [eW, eH]
          refine ihm (k + 1) _ _ _ (by omega) (by omega) (fun q => by omega) (fun _ => ⟨rfl, rfl⟩) (st g4) (fun j k' a c e1 e2 => ?_) (fun k' a c => ?_)
          · rw [gI_sIn (show (21 : Nat) ≠ 22 by decide), gI_sIo (by omega), gI_sIo (by omega), gI_sIn (show (22 : Nat) ≠ 21 by decide)]
            exact g5 j k' a c e1 e2
          · by_cases e : k' = k + 1
            · rw [e, show i * 14 + (k + 1) - 1 = i * 14 + k by omega, gI_sIn (show (21 : Nat) ≠ 22 by decide), gI_sIs, gI_sIs]
              exact ⟨rfl, rfl⟩
            · rw [gI_sIn (show (21 : Nat) ≠ 22 by decide), gI_sIo (by omega), gI_sIo (by omega), gI_sIn (show (22 : Nat) ≠ 21 by decide)]
              exact g6 k' a (by omega)
      have mi := h1.2.1.2 i i0 (by omega)
      rw [mi.1, mi.2.1]
      exact inner (n + 1) i _ _ ξ (by omega) (Int.le_refl _) (fun _ => ⟨rfl, rfl⟩) (fun q => by omega) h1 h2 (fun k' a c => by omega)
  exact outer (s 31).toNat 0 μ (by omega) (Int.le_refl _) ⟨mef.rf, hm, rfl⟩ (fun j k a c => by omega)
theorem pX3_measure {d : Nat} {Q : Int → zMem → Prop} {μ : zMem} {s : Int → Int} {b : Int} (hw : wf s) (b0 : 1 ≤ b) (b1 : b ≤ 12) (hs : WST s μ) (hno : isL s b ≠ true → ∀ μ', mef μ μ' → Q 0 μ') (hok : isL s b = true → ∀ μ', mef μ μ' → MEA s b μ' → Q 1 μ') : kX3_measure (d + 2) b (s 74) μ Q := by
  have hn := hw.2.2.1
  refine bX3_measure ?_
  rw [hs.1]
  have loop : ∀ (n k : Nat) (ξ : zMem), (k : Int) + n = s 31 → mef μ ξ → ME1 s b k ξ → fitsW s b k = true → zX3_measure_11 (d + 1) Q b (s 74) k ξ := by
    intro n
    induction n with
    | zero =>
      intro k ξ h0 h1 h2 h3
      refine bX3_measure_11 ⟨zi _, by rw [h2.1]; exact zi _, fun _ => ?_, fun q => absurd (by rw [h2.1]; omega) q⟩
      have ek : (k : Int) = s 31 := by omega
      rw [ek] at h2
      refine pX3_findLastEnds hw (h1.ws hs) h2 ?_
      intro ζ g1 g2 g3
      refine pX3_measureLines hw b0 b1 g2 g3 ?_
      intro χ w1 w2
      rw [w2.1.1]
      refine ⟨zi _, ?_⟩
      have hf : fitsW s b (s 31).toNat = true := by
        rw [show (s 31).toNat = k by omega]
        exact h3
      by_cases z : s 31 ≤ 0
      · rw [if_pos z]
        exact hno (by unfold isL; rw [decide_eq_false (by omega)]; simp) χ (h1.tr (g1.tr w1))
      · rw [if_neg z]
        exact hok (by unfold isL; rw [decide_eq_true (by omega), hf]; rfl) χ (h1.tr (g1.tr w1)) w2
    | succ n ih =>
      intro k ξ h0 h1 h2 h3
      have wk := hw.2.2.2.1 k (by omega) (by omega)
      have sb := sz_bd hw b0 b1 (show 0 ≤ (k : Int) by omega) (by omega)
      refine bX3_measure_11 ⟨zi _, by rw [h2.1]; exact zi _, fun q => absurd q (by rw [h2.1]; omega), fun _ => ?_⟩
      refine pX5_part (s := s) hw (h1.ws hs) (by omega) (by omega) (by omega) (by omega) ⟨by omega, by omega, by omega, by omega, ?_⟩
      rw [gI_sIs, gI_sIn (show (6 : Nat) ≠ 17 by decide), (h1.ws hs).2.2 _ (by omega) (by omega)]
      rw [show b + (s (32 + 3 * (k : Int) + 1) - 1) * s 74 = sz s b k from rfl]
      have lb : 1 ≤ s (74 + (0 + s (32 + 3 * (k : Int) + 1))) ∧ s (74 + (0 + s (32 + 3 * (k : Int) + 1))) ≤ 20 := by
        have w6 := hw.2.2.2.2.2.1
        have w7 := hw.2.2.2.2.2.2.1
        have w8 := hw.2.2.2.2.2.2.2.1
        have : s (32 + 3 * (k : Int) + 1) = 1 ∨ s (32 + 3 * (k : Int) + 1) = 2 ∨ s (32 + 3 * (k : Int) + 1) = 3 := by omega
        rcases this with e | e | e <;> rw [e]
        · exact w6
        · exact w7
        · exact w8
      have fs : fitsW s b (k + 1) = (fitsW s b k && decide (s (74 + s (32 + 3 * (k : Int) + 1)) ≤ sz s b k)) := rfl
      rw [show 74 + (0 + s (32 + 3 * (k : Int) + 1)) = 74 + s (32 + 3 * (k : Int) + 1) by omega] at lb ⊢
      refine ⟨zi _, zi _, fun hle => ?_, fun hle => hno ?_ _ (h1.w (by omega))⟩
      · have h1' : mef μ (sI ξ 17 k (sz s b k)) := h1.w (by omega)
        refine pX5_part (s := s) hw (h1'.ws hs) (by omega) (by omega) (by omega) (by omega) ?_
        rw [gI_sIs, gI_sIn (show (17 : Nat) ≠ 18 by decide), gI_sIs, show s (32 + 3 * (k : Int) + 0) * sz s b k = wd s b k from rfl]
        have prev : ¬ (k : Int) = 0 → gI (sI ξ 17 k (sz s b k)) 17 ((k : Int) - 1) = sz s b ((k : Int) - 1) := fun z => by
          rw [gI_sIo (by omega)]
          exact (h2.2 _ (by omega) (by omega)).1
        refine ⟨⟨fun _ => trivial, fun z => ⟨by omega, by omega, ?_, zi _⟩⟩, ?_⟩
        · have sb' := sz_bd hw b0 b1 (show 0 ≤ (k : Int) - 1 by omega) (by omega)
          rw [prev z]
          exact zi _
        have eg : (if (k : Int) = 0 then (0 : Int) else if sz s b k < gI (sI ξ 17 k (sz s b k)) 17 ((k : Int) - 1) then sz s b k else gI (sI ξ 17 k (sz s b k)) 17 ((k : Int) - 1)) = if (k : Int) = 0 then 0 else gp s b k := by
          by_cases z : (k : Int) = 0
          · rw [if_pos z, if_pos z]
          · rw [if_neg z, if_neg z, prev z]
            rfl
        rw [eg, show (k : Int) + 1 = ((k + 1 : Nat) : Int) by omega]
        refine ih (k + 1) _ (by omega) ((h1'.w (by omega)).w (by omega)) ⟨by rw [gI_sIn (by decide), gI_sIn (by decide), gI_sIn (by decide)]; exact h2.1, fun i a c => ?_⟩ (by rw [fs, h3, decide_eq_true hle]; rfl)
        rw [gI_sIn (show (17 : Nat) ≠ 19 by decide), gI_sIn (show (17 : Nat) ≠ 18 by decide), gI_sIn (show (18 : Nat) ≠ 19 by decide)]
        by_cases e : i = k
        · rw [e, gI_sIs, gI_sIs, gI_sIs]
          exact ⟨rfl, rfl, rfl⟩
        · rw [gI_sIo e, gI_sIo e, gI_sIo e, gI_sIn (show (18 : Nat) ≠ 17 by decide), gI_sIn (show (19 : Nat) ≠ 18 by decide), gI_sIn (show (19 : Nat) ≠ 17 by decide)]
          exact h2.2 i a (by omega)
      · have bad : ∀ m : Nat, k + 1 ≤ m → fitsW s b m = false := by
          intro m
          induction m with
          | zero => intro q; omega
          | succ m ihm =>
            intro q
            by_cases e : m = k
            · rw [e, fs, decide_eq_false hle, Bool.and_false]
            · show (fitsW s b m && _) = false
              rw [ihm (by omega), Bool.false_and]
        unfold isL
        rw [bad (s 31).toNat (by omega)]
        simp
  exact loop (s 31).toNat 0 _ (by omega) (mef.rf.w (by omega)) ⟨gI_sIs, fun i a c => by omega⟩ rfl
