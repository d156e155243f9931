/-! how a State of the class stands for a state -/
def LYT (q : Nat) (s : Int → Int) (μ : zMem) : Prop := (gD μ)[q]? = some (2, 0) ∧ (gD μ)[q + 1]? = some (9, 5) ∧ (gD μ)[q + 2]? = some (9, 98) ∧ (gD μ)[q + 3]? = some (9, 70) ∧ gR μ q 2 = some (q + 1) ∧ gR μ q 3 = some (q + 2) ∧ gR μ q 4 = some (q + 3) ∧ gI μ q 0 = s 84 ∧ gI μ q 1 = s 256 ∧
  (∀ i, 0 ≤ i → i < 5 → gI μ (q + 1) i = s (83 + i)) ∧ (∀ i, 0 ≤ i → i < 7 * s 84 → gI μ (q + 2) i = s (88 + i)) ∧ (∀ i, 0 ≤ i → i < 5 * s 256 → gI μ (q + 3) i = s (186 + i)) ∧ 65 ≤ q
def PRS (p : Nat) (s : Int → Int) (μ : zMem) : Prop := (s 82 = 0 ∧ gR μ p 4 = none) ∨ (s 82 = 1 ∧ ∃ q, gR μ p 4 = some q ∧ LYT q s μ)
def XS (p : Nat) (s : Int → Int) (μ : zMem) : Prop := gI μ (p + 1) 0 = s 0 ∧ (∀ i, 0 ≤ i → i < 5 * s 0 → gI μ (p + 2) i = s (1 + i)) ∧ FRE μ (p + 3) (freeB s) ∧ gI μ p 1 = s 31 ∧ (∀ i, 0 ≤ i → i < 3 * s 31 → gI μ (p + 4) i = s (32 + i)) ∧ (∀ i, 0 ≤ i → i < 8 → gI μ (p + 5) i = s (74 + i)) ∧ PRS p s μ
/-- what is new was not there, and layouts stay as they are -/
def lay (μ μ' : zMem) : Prop := (∀ q : Nat, q < (gD μ).length → (gD μ')[q]? = (gD μ)[q]?) ∧ ∀ q, 65 ≤ q → q < (gD μ).length → gI μ' q = gI μ q ∧ gR μ' q = gR μ q
theorem lay.rf {μ : zMem} : lay μ μ := ⟨fun _ _ => rfl, fun _ _ _ => ⟨rfl, rfl⟩⟩
theorem lay_of {μ μ' : zMem} (h : gD μ' = gD μ) (h' : ∀ q, 65 ≤ q → gI μ' q = gI μ q ∧ gR μ' q = gR μ q) : lay μ μ' := ⟨fun _ _ => by rw [h], fun q a _ => h' q a⟩
theorem gd_lt {μ : zMem} {q : Nat} {v : Nat × Nat} (h : (gD μ)[q]? = some v) : q < (gD μ).length := by
  by_cases g : q < (gD μ).length
  · exact g
  · rw [List.getElem?_eq_none (by omega)] at h
    cases h
theorem LYT.lay {q : Nat} {s : Int → Int} {μ μ' : zMem} (h : LYT q s μ) (h' : lay μ μ') : LYT q s μ' := by
  obtain ⟨a1, a2, a3, a4, a5, a6, a7, a8, a9, a10, a11, a12, a13⟩ := h
  have l0 := gd_lt a1
  have l1 := gd_lt a2
  have l2 := gd_lt a3
  have l3 := gd_lt a4
  have i0 := h'.2 q (by omega) l0
  have i1 := h'.2 (q + 1) (by omega) l1
  have i2 := h'.2 (q + 2) (by omega) l2
  have i3 := h'.2 (q + 3) (by omega) l3
  refine ⟨by rw [h'.1 _ l0]; exact a1, by rw [h'.1 _ l1]; exact a2, by rw [h'.1 _ l2]; exact a3, by rw [h'.1 _ l3]; exact a4, by rw [i0.2]; exact a5, by rw [i0.2]; exact a6, by rw [i0.2]; exact a7, by rw [i0.1]; exact a8, by rw [i0.1]; exact a9, ?_, ?_, ?_, a13⟩
  · rw [i1.1]; exact a10
  · rw [i2.1]; exact a11
  · rw [i3.1]; exact a12
theorem PRS.lay {p p' : Nat} {s : Int → Int} {μ μ' : zMem} (h : PRS p s μ) (h' : lay μ μ') (hr : gR μ' p' 4 = gR μ p 4) : PRS p' s μ' := by
  rcases h with ⟨a, b⟩ | ⟨a, q, b, c⟩
  · exact Or.inl ⟨a, by rw [hr]; exact b⟩
  · exact Or.inr ⟨a, q, by rw [hr]; exact b, c.lay h'⟩
theorem XS.fr {p : Nat} {s : Int → Int} {μ μ' : zMem} (h : XS p s μ) (hl : lay μ μ') (hi : ∀ q, p ≤ q → q ≤ p + 5 → gI μ' q = gI μ q) (hL : gL μ' (p + 3) = gL μ (p + 3)) (hr : gR μ' p 4 = gR μ p 4) : XS p s μ' := by
  obtain ⟨a1, a2, a3, a4, a5, a6, a7⟩ := h
  refine ⟨by rw [hi _ (by omega) (by omega)]; exact a1, by rw [hi _ (by omega) (by omega)]; exact a2, fun y hy => by rw [hL]; exact a3 y hy, by rw [hi _ (by omega) (by omega)]; exact a4, by rw [hi _ (by omega) (by omega)]; exact a5, by rw [hi _ (by omega) (by omega)]; exact a6, a7.lay hl hr⟩
/-- only the State p changes -/
def cpf (p : Nat) (μ μ' : zMem) : Prop := gD μ' = gD μ ∧ (∀ q j, ¬ (q = p ∧ j = 4) → gR μ' q j = gR μ q j) ∧ (∀ q, ¬ (p ≤ q ∧ q ≤ p + 5) → gI μ' q = gI μ q) ∧ ∀ q, q ≠ p + 3 → gL μ' q = gL μ q
theorem pX5_copyFrom {d : Nat} {Q : zMem → Prop} {μ : zMem} {s : Int → Int} {p0 p1 : Nat} (h0 : isSt p0) (h1 : isSt p1) (hne : p0 ≠ p1) (hw : wf s) (hx : XS p1 s μ) (hQ : ∀ μ', cpf p0 μ μ' → XS p0 s μ' → gI μ' (p0 + 1) 1 = gI μ (p0 + 1) 1 + 1 → Q μ') : kX5_copyFrom (d + 2) p0 p1 μ Q := by
  have hns := hw.1
  have hn := hw.2.2.1
  have dis : ∀ a b : Nat, a ≤ 5 → b ≤ 5 → p0 + a ≠ p1 + b := by
    intro a b ha hb
    unfold isSt at h0 h1
    omega
  have p64 : p0 ≤ 48 ∧ p1 ≤ 48 := by
    unfold isSt at h0 h1
    omega
  obtain ⟨a1, a2, a3, a4, a5, a6, a7⟩ := hx
  refine bX5_copyFrom h0 h1 (bX1_copyFrom h0 h1 ⟨by decide, by decide, by decide, by decide, by decide, by decide, by decide, by decide, ?_⟩)
  simp only [gI_sR, gR_sI, gR_cI, gR_cL, gI_cL]
  generalize hE : sI μ (p0 + 1) 0 (gI μ (p1 + 1) 0) = E
  have e1 : ∀ q, q ≠ p0 + 1 → gI E q = gI μ q := fun q hq => by rw [← hE, gI_sIn hq]
  refine hQ _ ⟨?_, fun q j hq => ?_, fun q hq => ?_, fun q hq => ?_⟩ ⟨?_, fun i x y => ?_, fun y hy => ?_, ?_, fun i x y => ?_, fun i x y => ?_, ?_⟩ ?_
  · rw [gD_sR, gD_cI, gD_cI, gD_sI, gD_sI, gD_cL, gD_cI, ← hE, gD_sI]
  · rw [gR_sR, if_neg hq, gR_cI, gR_cI, gR_sI, gR_sI, gR_cL, gR_cI, ← hE, gR_sI]
  · rw [gI_sR, gI_cIn (by omega), gI_cIn (by omega), gI_sIn (by omega), gI_sIn (by omega), gI_cL, gI_cIn (by omega), e1 _ (by omega)]
  · rw [gL_sR, gL_cI, gL_cI, gL_sI, gL_sI, gL_cLn (by omega), gL_cI, ← hE, gL_sI]
  · rw [gI_sR, gI_cIn (by omega), gI_cIn (by omega), gI_sIn (by omega), gI_sIo (by decide), gI_cL, gI_cIn (by omega), ← hE, gI_sIs]
    exact a1
  · rw [gI_sR, gI_cIn (by omega), gI_cIn (by omega), gI_sIn (by omega), gI_sIn (by omega), gI_cL, gI_cI, if_pos rfl, if_pos ⟨by omega, by omega⟩, e1 _ (show p1 + 2 ≠ p0 + 1 from fun q => dis 1 2 (by omega) (by omega) q.symm), show 0 + (i - 0) = i by omega]
    exact a2 i x y
  · rw [gL_sR, gL_cI, gL_cI, gL_sI, gL_sI, gL_cL, if_pos rfl, if_pos ⟨by omega, by omega⟩, gL_cI, ← hE, gL_sI, show 0 + ((y : Int) - 0) = y by omega]
    exact a3 y hy
  · rw [gI_sR, gI_cIn (by omega), gI_cIn (by omega), gI_sIs, gI_sIn (show p1 ≠ p0 + 1 from fun q => dis 1 0 (by omega) (by omega) q.symm), gI_cL, gI_cIn (show p1 ≠ p0 + 2 from fun q => dis 2 0 (by omega) (by omega) q.symm), e1 _ (show p1 ≠ p0 + 1 from fun q => dis 1 0 (by omega) (by omega) q.symm)]
    exact a4
  · rw [gI_sR, gI_cIn (by omega), gI_cI, if_pos rfl, if_pos ⟨by omega, by omega⟩, gI_sIn (show p1 + 4 ≠ p0 from fun q => dis 0 4 (by omega) (by omega) q.symm), gI_sIn (show p1 + 4 ≠ p0 + 1 from fun q => dis 1 4 (by omega) (by omega) q.symm), gI_cL, gI_cIn (show p1 + 4 ≠ p0 + 2 from fun q => dis 2 4 (by omega) (by omega) q.symm), e1 _ (show p1 + 4 ≠ p0 + 1 from fun q => dis 1 4 (by omega) (by omega) q.symm), show 0 + (i - 0) = i by omega]
    exact a5 i x y
  · rw [gI_sR, gI_cI, if_pos rfl, if_pos ⟨by omega, by omega⟩, gI_cIn (show p1 + 5 ≠ p0 + 4 from fun q => dis 4 5 (by omega) (by omega) q.symm), gI_sIn (show p1 + 5 ≠ p0 from fun q => dis 0 5 (by omega) (by omega) q.symm), gI_sIn (show p1 + 5 ≠ p0 + 1 from fun q => dis 1 5 (by omega) (by omega) q.symm), gI_cL, gI_cIn (show p1 + 5 ≠ p0 + 2 from fun q => dis 2 5 (by omega) (by omega) q.symm), e1 _ (show p1 + 5 ≠ p0 + 1 from fun q => dis 1 5 (by omega) (by omega) q.symm), show 0 + (i - 0) = i by omega]
    exact a6 i x y
  · refine a7.lay (lay_of ?_ (fun q hq => ⟨?_, ?_⟩)) ?_
    · rw [gD_sR, gD_cI, gD_cI, gD_sI, gD_sI, gD_cL, gD_cI, ← hE, gD_sI]
    · rw [gI_sR, gI_cIn (by omega), gI_cIn (by omega), gI_sIn (by omega), gI_sIn (by omega), gI_cL, gI_cIn (by omega), e1 _ (by omega)]
    · funext j
      rw [gR_sR, if_neg (by omega), gR_cI, gR_cI, gR_sI, gR_sI, gR_cL, gR_cI, ← hE, gR_sI]
    · rw [gR_sR, if_pos ⟨rfl, rfl⟩]
  · rw [gI_sR, gI_cIn (by omega), gI_cIn (by omega), gI_sIn (by omega), gI_sIs, gI_cIn (by omega), ← hE, gI_sIo (by decide)]
