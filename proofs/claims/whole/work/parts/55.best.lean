/-! what the search answers -/
theorem fold0 {w : Int} (L : List (Int × List Int)) : ∀ k : Int, ∀ o, k ≤ w → (L.foldl (stp 0 w) (k, o)).1 = if k + L.length ≤ w then k + L.length else w := by
  induction L with
  | nil => intro k o h; simp [h]
  | cons x L ih =>
    intro k o h
    rw [List.foldl_cons]
    have es : stp 0 w (k, o) x = if k < w then (k + 1, o) else (k, o) := rfl
    rw [es, List.length_cons]
    by_cases lt : k < w
    · rw [if_pos lt, ih (k + 1) o (by omega)]
      split <;> split <;> omega
    · rw [if_neg lt, ih k o h]
      split <;> split <;> omega
theorem fold1 {w : Int} (L : List (Int × List Int)) : ∀ st : Int × Option (Int × List Int), (L.foldl (stp 1 w) st).2 = L.foldl bstep st.2 := by
  induction L with
  | nil => intro st; rfl
  | cons x L ih =>
    intro st
    rw [List.foldl_cons, List.foldl_cons, ih]
    congr 1
    obtain ⟨k, o⟩ := st
    cases o with
    | none => rfl
    | some e =>
      show (if x.1 < e.1 then (k + 1, some x) else (k, some e)).2 = if x.1 < e.1 then some x else some e
      split <;> rfl
theorem dn_len : ∀ n : Nat, (dn n).length = n
  | 0 => rfl
  | n + 1 => by
    show (n :: dn n).length = n + 1
    rw [List.length_cons, dn_len n]
theorem CLs_len {s : Int → Int} {b : Int} (hw : wf s) : (CLs s b).length ≤ 8192 := by
  have hn := hw.2.2.1
  unfold CLs
  split
  · rw [comp_codes]
    refine Nat.le_trans (List.length_filterMap_le _ _) ?_
    rw [dn_len]
    exact Nat.le_trans (Nat.pow_le_pow_right (by decide) (show (s 31 - 1).toNat ≤ 13 by omega)) (by decide)
  · simp
theorem CLs_bd {s : Int → Int} {b : Int} (hw : wf s) (b0 : 1 ≤ b) (b1 : b ≤ 12) : ∀ x ∈ CLs s b, 0 ≤ x.1 ∧ x.1 ≤ 39000 := by
  intro x hx
  have hn := hw.2.2.1
  unfold CLs at hx
  split at hx
  · rename_i hl
    have : 0 < s 31 := by
      unfold isL at hl
      simp only [Bool.and_eq_true, decide_eq_true_eq] at hl
      exact hl.1
    have := comp_bd hw b0 b1 _ 0 (s 78) 0 c0 c0 (by omega) (by omega) x hx
    omega
  · cases hx
/-- what a run of the search leaves alone -/
def rnf (μ μ' : zMem) : Prop := scf μ μ' ∧ (∀ q, q ≠ 11 → ¬ (24 ≤ q ∧ q ≤ 27) → q ≠ 29 → gI μ' q = gI μ q) ∧ ∀ i, ¬ (12 ≤ i ∧ i ≤ 17) → gI μ' 11 i = gI μ 11 i
theorem pX4_run {d : Nat} {Q : zMem → Prop} {μ : zMem} {s : Int → Int} {b w oc : Int} (hw : wf s) (b0 : 1 ≤ b) (b1 : b ≤ 12) (hl : isL s b = true) (hD : (gD μ)[27]? = some (9, 14)) (hs : SP s b μ) (hT : LCT s b 0 μ) (ho : (oc = 0 ∧ 1 ≤ w ∧ w ≤ 2147483647) ∨ (oc = 1 ∧ w = 2147483647))
    (hQ : ∀ μ', rnf μ μ' → DM oc w ((CLs s b).foldl (stp oc w) (0, none)) μ' → Q μ') : kX4_run (d + 32) w oc μ Q := by
  have hn := hw.2.2.1
  have ht := hw.2.2.2.2.2.2.2.2.1
  have n0 : 0 < s 31 := by
    unfold isL at hl
    simp only [Bool.and_eq_true, decide_eq_true_eq] at hl
    exact hl.1
  have eC : CLs s b = compF s b 0 (s 78) 0 c0 c0 := by
    unfold CLs compF
    rw [if_pos hl, if_neg (by omega), show s 31 - 1 - 0 = s 31 - 1 by omega]
  refine bX4_run ⟨by omega, ?_⟩
  generalize hν : sI (sI (sI (sI μ 11 12 0) 11 13 w) 11 14 oc) 24 0 0 = ν
  have nq : ∀ q, q ≠ 11 → q ≠ 24 → gI ν q = gI μ q := fun q a c => by
    rw [← hν, gI_sIn c, gI_sIn a, gI_sIn a, gI_sIn a]
  have n11 : ∀ i, ¬ (12 ≤ i ∧ i ≤ 14) → gI ν 11 i = gI μ 11 i := fun i a => by
    rw [← hν, gI_sIn (by decide), gI_sIo (by omega), gI_sIo (by omega), gI_sIo (by omega)]
  have nf : scf μ ν := by
    rw [← hν]
    exact (((scf.rf.w (by omega)).w (by omega)).w (by omega)).w (by omega)
  have ns : SP s b ν := hs.of (fun q a c => nq q (by omega) (by omega)) (fun i a c => n11 i (by omega))
  have nT : LCT s b 0 ν := fun w' r a c e f => by rw [nq 23 (by omega) (by omega)]; exact hT w' r a c e f
  have nd : DM oc w (0, none) ν := by
    rw [← hν]
    refine ⟨by rw [gI_sIn (by decide), gI_sIo (by decide), gI_sIo (by decide), gI_sIs], by rw [gI_sIn (by decide), gI_sIo (by decide), gI_sIs], by rw [gI_sIn (by decide), gI_sIs], fun _ e he => by cases he⟩
  have n24 : gI ν 24 0 = 0 := by rw [← hν, gI_sIs]
  have si : SI oc w (0, none) := by
    rcases ho with h | h
    · exact ⟨Or.inl h.1, fun _ => ⟨Int.le_refl _, by show (0 : Int) ≤ w; omega, h.2.2⟩, fun q => by omega⟩
    · exact ⟨Or.inr h.1, fun q => by omega, fun _ => ⟨h.2, fun _ => rfl, fun e he => by cases he⟩⟩
  have fin : ∀ μ', dfr 0 0 ν μ' → rnf μ μ' := fun μ' a => ⟨nf.tr a.1, fun q x y z => (a.2.1 q x y z).trans (nq q x (by omega)), fun i x => (a.2.2.1 i (by omega) (by omega) (by omega)).trans (n11 i (by omega))⟩
  rw [ns.2.2.1]
  refine pX4_leastCostFrom hw b0 b1 ns.1.1.1 (Int.le_refl _) (by omega) nT (Int.le_refl _) (by omega) ?_
  intro v v1 v2 v3 v4
  refine ⟨zi _, fun hv => hQ ν (fin ν dfr.rf) ?_, fun hv => ?_⟩
  · have : CLs s b = [] := by
      cases hc : CLs s b with
      | nil => rfl
      | cons x L =>
        have hx : x ∈ CLs s b := by rw [hc]; exact List.mem_cons_self
        rw [eC] at hx
        unfold compF at hx
        rw [if_neg (by omega)] at hx
        exact absurd hv (v2 n0 _ _ _ x hx).1
    rw [this]
    exact nd
  · rw [ns.2.2.1]
    obtain ⟨d', hd'⟩ : ∃ d', d + 31 = d' + 2 * (s 31).toNat + 3 := ⟨d + 28 - 2 * (s 31).toNat, by omega⟩
    rw [hd']
    have := dfs (oc := oc) (w := w) hw b0 b1 (s 31).toNat d' Q ν [] 0 0 (s 78) 0 c0 c0 (0, none) (by omega) (by omega) (by omega) (by omega) (by omega) (by omega) (by rw [nf.1]; exact hD) ns nT ⟨⟨n24, fun i h => absurd h (by simp)⟩, n24, fun h => absurd h (by simp), fun i a c => by omega, fun i a c => by omega, fun i a c => by omega⟩ ⟨by simp, by omega, by omega, fun _ => rfl, fun i a c => by omega, fun i a c => by omega⟩ si nd (fun q => by omega) (fun μ' a g => hQ μ' (fin μ' a) ?_)
    · exact this
    · rw [← eC] at g
      have em : (fun x : Int × List Int => ((0 : Int) + x.1, ([] : List Int) ++ x.2)) = id := by
        funext x
        simp
      rw [em, List.map_id] at g
      exact g
/-- a State that can be searched -/
def SCH (s : Int → Int) (μ : zMem) : Prop := wf s ∧ WST s μ ∧ FRE μ 4 (freeB s) ∧ BND s μ ∧ zIn (gI μ 2 1) ∧ (gD μ)[27]? = some (9, 14)
theorem rnf.bn {s : Int → Int} {μ μ' : zMem} (h : rnf μ μ') (hb : BND s μ) : BND s μ' := fun r x y => by
  rw [h.2.1 15 (by omega) (by omega) (by omega), h.2.1 2 (by omega) (by omega) (by omega)]
  have := hb r x y
  refine ⟨this.1, this.2.1, fun q row z w => ?_⟩
  rw [h.2.1 13 (by omega) (by omega) (by omega), h.2.1 14 (by omega) (by omega) (by omega)]
  exact this.2.2 q row z w
theorem CLs_no {s : Int → Int} {b : Int} (h : isL s b ≠ true) : CLs s b = [] := by
  unfold CLs
  rw [if_neg h]
theorem pX4_hasLayout {d : Nat} {Q : Int → zMem → Prop} {μ : zMem} {s : Int → Int} {b : Int} (b0 : 1 ≤ b) (b1 : b ≤ 12) (H : SCH s μ) (hQ : ∀ μ', scf μ μ' → BND s μ' → Q (if (CLs s b).isEmpty = true then 0 else 1) μ') : kX4_hasLayout (d + 33) b (s 74) (s 81) μ Q := by
  obtain ⟨hw, h2, h3, h4, h5, h6⟩ := H
  refine bX4_hasLayout (pX4_prepare hw b0 b1 h2 h3 h4 h5 (fun hl μ' a c => ⟨zi _, fun _ => ?_, fun q => absurd rfl q⟩) (fun hl ξ a c e f => ⟨zi _, fun q => absurd q (by decide), fun _ => ?_⟩))
  · have := hQ μ' a c
    rw [CLs_no hl] at this
    exact this
  · refine pX4_run hw b0 b1 hl (by rw [a.1]; exact h6) e f (Or.inl ⟨rfl, by omega, by omega⟩) ?_
    intro μ' r g
    have e1 := fold0 (w := 1) (CLs s b) 0 none (by omega)
    rw [g.1, e1]
    have := hQ μ' (a.tr r.1) (r.bn c)
    cases hc : CLs s b with
    | nil =>
      rw [hc] at this
      exact ⟨zi _, this⟩
    | cons x L =>
      rw [hc] at this
      have e2 : (if (0 : Int) + ((x :: L).length : Int) ≤ 1 then (0 : Int) + ((x :: L).length : Int) else 1) = 1 := by
        rw [List.length_cons]
        split <;> omega
      rw [e2]
      exact ⟨zi _, this⟩
theorem pX4_countLayouts {d : Nat} {Q : Int → zMem → Prop} {μ : zMem} {s : Int → Int} {b : Int} (b0 : 1 ≤ b) (b1 : b ≤ 12) (H : SCH s μ) (h60 : gI μ 6 0 = s 74) (h67 : gI μ 6 7 = s 81) (hQ : ∀ μ', scf μ μ' → BND s μ' → Q ((CLs s b).length : Int) μ') : kX4_countLayouts (d + 33) b μ Q := by
  obtain ⟨hw, h2, h3, h4, h5, h6⟩ := H
  refine bX4_countLayouts ?_
  rw [h60, h67]
  refine pX4_prepare hw b0 b1 h2 h3 h4 h5 (fun hl μ' a c => ⟨zi _, fun _ => ?_, fun q => absurd rfl q⟩) (fun hl ξ a c e f => ⟨zi _, fun q => absurd q (by decide), fun _ => ?_⟩)
  · have := hQ μ' a c
    rw [CLs_no hl] at this
    exact this
  · refine pX4_run hw b0 b1 hl (by rw [a.1]; exact h6) e f (Or.inl ⟨rfl, by omega, by omega⟩) ?_
    intro μ' r g
    have e1 := fold0 (w := 2147483647) (CLs s b) 0 none (by omega)
    have hlen := CLs_len (b := b) hw
    rw [if_pos (by omega), Int.zero_add] at e1
    rw [g.1, e1]
    exact hQ μ' (a.tr r.1) (r.bn c)
theorem pX4_findBest {d : Nat} {Q : Int → zMem → Prop} {μ : zMem} {s : Int → Int} {b : Int} (b0 : 1 ≤ b) (b1 : b ≤ 12) (H : SCH s μ) (h60 : gI μ 6 0 = s 74) (h67 : gI μ 6 7 = s 81) (hQ : ∀ μ', scf μ μ' → BND s μ' → (∀ v es, bestOf (CLs s b) = some (v, es) → SP s b μ' ∧ gI μ' 11 17 = v ∧ gI μ' 11 16 = (es.length : Int) ∧ pth es 29 μ') → Q (costV s b) μ') : kX4_findBest (d + 33) b μ Q := by
  obtain ⟨hw, h2, h3, h4, h5, h6⟩ := H
  refine bX4_findBest ?_
  rw [h60, h67]
  refine pX4_prepare hw b0 b1 h2 h3 h4 h5 (fun hl μ' a c => ⟨zi _, fun _ => ?_, fun q => absurd rfl q⟩) (fun hl ξ a c e f => ⟨zi _, fun q => absurd q (by decide), fun _ => ?_⟩)
  · have := hQ μ' a c (fun v es h => by rw [CLs_no hl] at h; cases h)
    rw [costV_0 (CLs_no hl)] at this
    exact this
  · refine pX4_run hw b0 b1 hl (by rw [a.1]; exact h6) e f (Or.inr ⟨rfl, rfl⟩) ?_
    intro μ' r g
    have e1 : ((CLs s b).foldl (stp 1 2147483647) (0, none)).2 = bestOf (CLs s b) := fold1 (CLs s b) (0, none)
    have si : SI 1 2147483647 ((CLs s b).foldl (stp 1 2147483647) (0, none)) := SI_fold _ _ ⟨Or.inr rfl, fun q => absurd q (by decide), fun _ => ⟨rfl, fun _ => rfl, fun e he => by cases he⟩⟩ (CLs_bd hw b0 b1)
    generalize (CLs s b).foldl (stp 1 2147483647) (0, none) = st at e1 si g
    have i3 := si.2.2 rfl
    have sp : SP s b μ' := e.of (fun q x y => r.2.1 q (by omega) (by omega) (by omega)) (fun i x y => r.2.2 i (by omega))
    have hq := hQ μ' (a.tr r.1) (r.bn c) (fun v es h => by
      have := g.2.2.2 rfl (v, es) (e1.trans h)
      exact ⟨sp, this.1, this.2.1, this.2.2⟩)
    rw [g.1]
    unfold costV at hq
    cases hb : bestOf (CLs s b) with
    | none =>
      rw [hb] at hq e1
      have := i3.2.1 e1
      rw [this]
      exact ⟨zi _, hq⟩
    | some x =>
      rw [hb] at hq e1
      have := i3.2.2 x e1
      refine ⟨zi _, ?_⟩
      rw [if_neg (by omega), (g.2.2.2 rfl x e1).1]
      exact hq
