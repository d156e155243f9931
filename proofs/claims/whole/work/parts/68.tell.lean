/-! take in the class: where lines begin, and how a line is told -/
def lnS : List Int → Int → Nat → Int
  | _, first, 0 => first
  | [], first, _ + 1 => first
  | e :: es, _, k + 1 => lnS es e k
theorem lnS_0 (es : List Int) (first : Int) : lnS es first 0 = first := by cases es <;> rfl
theorem lnS_s (e : Int) (es : List Int) (first : Int) (k : Nat) : lnS (e :: es) first (k + 1) = lnS es e k := rfl
theorem lnS_bd {n : Int} : ∀ (es : List Int) (first : Int) (k : Nat), inc n first es → k ≤ es.length → first + k ≤ lnS es first k ∧ lnS es first k + (es.length - k : Nat) ≤ n
  | [], first, k, h, hk => by
    have h' : first = n := h
    have hk' : k = 0 := by
      rw [List.length_nil] at hk
      omega
    subst hk'
    rw [lnS_0, List.length_nil]
    omega
  | e :: es, first, 0, h, hk => by
    have := inc_le (e :: es) first h
    rw [lnS_0]
    omega
  | e :: es, first, k + 1, h, hk => by
    rw [List.length_cons] at hk
    have h1 : first < e := h.1
    have ih := lnS_bd es e k h.2 (by omega)
    rw [lnS_s, List.length_cons]
    omega
theorem lnS_lt {n : Int} : ∀ (es : List Int) (first : Int) (k : Nat), inc n first es → k < es.length → lnS es first k < lnS es first (k + 1)
  | [], first, k, h, hk => absurd hk (by simp)
  | e :: es, first, 0, h, hk => by
    have h1 : first < e := h.1
    rw [lnS_s, lnS_0, lnS_0]
    exact h1
  | e :: es, first, k + 1, h, hk => by
    rw [List.length_cons] at hk
    rw [lnS_s, lnS_s]
    exact lnS_lt es e k h.2 (by omega)
theorem lnS_end {n : Int} : ∀ (es : List Int) (first : Int), inc n first es → lnS es first es.length = n
  | [], first, h => h
  | e :: es, first, h => by
    rw [List.length_cons, lnS_s]
    exact lnS_end es e h.2
theorem lnS_get : ∀ (es : List Int) (first : Int) (k : Nat) (h : k < es.length), lnS es first (k + 1) = es[k]
  | [], first, k, h => absurd h (by simp)
  | e :: es, first, 0, h => by
    rw [lnS_s, lnS_0]
    rfl
  | e :: es, first, k + 1, h => by
    rw [List.length_cons] at h
    rw [lnS_s, lnS_get es e k (by omega)]
    rfl
theorem pth_S {es : List Int} {p : Nat} {μ : zMem} (h : pth es p μ) : ∀ k : Nat, k ≤ es.length → gI μ p (k : Int) = lnS es 0 k
  | 0, _ => by
    rw [lnS_0]
    exact h.1
  | k + 1, hk => by
    rw [lnS_get es 0 k (by omega)]
    exact h.2 k (by omega)
theorem ln_S {n : Int} : ∀ (es : List Int) (first l i : Int) (k : Nat), inc n first es → k < es.length → lnS es first k ≤ i → i < lnS es first (k + 1) → lnF es first i = lnS es first k ∧ lnE es first i = lnS es first (k + 1) ∧ lnO es l i = l + k ∧ lnN es first i = (if k + 1 < es.length then lnS es first (k + 2) else lnS es first (k + 1))
  | [], first, l, i, k, h, hk, a, b => absurd hk (by simp)
  | e :: es, first, l, i, 0, h, hk, a, b => by
    have b' : i < e := by
      rw [lnS_s, lnS_0] at b
      exact b
    unfold lnF lnE lnO lnN
    rw [if_pos b', if_pos b', if_pos b', if_pos b', lnS_0, lnS_s, lnS_0]
    refine ⟨rfl, rfl, by simp, ?_⟩
    cases es with
    | nil =>
      rw [if_neg (by simp)]
      rfl
    | cons e2 es =>
      rw [if_pos (by simp)]
      show e2 = lnS es e2 0
      rw [lnS_0]
  | e :: es, first, l, i, k + 1, h, hk, a, b => by
    rw [List.length_cons] at hk
    have h1 := lnS_bd es e k h.2 (by omega)
    rw [lnS_s] at a b
    have nb : ¬ i < e := by omega
    have ih := ln_S es e (l + 1) i k h.2 (by omega) a b
    unfold lnF lnE lnO lnN
    rw [if_neg nb, if_neg nb, if_neg nb, if_neg nb, lnS_s, lnS_s]
    refine ⟨ih.1, ih.2.1, by rw [ih.2.2.1]; omega, ?_⟩
    rw [ih.2.2.2, List.length_cons]
    by_cases g : k + 1 < es.length
    · rw [if_pos g, if_pos (by omega)]
      rfl
    · rw [if_neg g, if_neg (by omega)]
theorem FC_lo {s : Int → Int} {b n : Int} : ∀ (es : List Int) (first row : Int) (C : Int → Int) (i : Int), inc n first es → i < first → FC s b es first row C i = C i
  | [], first, row, C, i, _, _ => rfl
  | e :: es, first, row, C, i, h, hi => by
    have h1 : first < e := h.1
    show FC s b es e (row + (lH s b first e + s 79)) (lC s b first e row C) i = C i
    rw [FC_lo es e _ _ i h.2 (by omega)]
    unfold lC
    rw [if_neg (by omega)]
theorem FU_lo {s : Int → Int} {b n : Int} : ∀ (es : List Int) (first row pf : Int) (C U : Int → Int) (i : Int), inc n first es → i < first → FU s b es first row pf C U i = U i
  | [], first, row, pf, C, U, i, _, _ => rfl
  | e :: es, first, row, pf, C, U, i, h, hi => by
    have h1 : first < e := h.1
    show FU s b es e (row + (lH s b first e + s 79)) first (lC s b first e row C) (lU s b (lC s b first e row C) U pf first) i = U i
    rw [FU_lo es e _ _ _ _ i h.2 (by omega)]
    unfold lU
    rw [if_neg (by omega), if_neg (by omega)]
/-- the row behind the last line, and its leading -/
def FR (s : Int → Int) (b : Int) : List Int → Int → Int → Int
  | [], _, row => row
  | e :: es, first, row => FR s b es e (row + (lH s b first e + s 79))
theorem FR_V {s : Int → Int} {b : Int} : ∀ (es : List Int) (l first row : Int) (V : Int → Int), es ≠ [] → FV s b es l first row V (7 * (l + (es.length : Int) - 1) + 2) + FV s b es l first row V (7 * (l + (es.length : Int) - 1) + 3) = FR s b es first row - s 79
  | [], l, first, row, V, h => absurd rfl h
  | [e], l, first, row, V, _ => by
    show lV s b l first e row V (7 * (l + (([e] : List Int).length : Int) - 1) + 2) + lV s b l first e row V (7 * (l + (([e] : List Int).length : Int) - 1) + 3) = row + (lH s b first e + s 79) - s 79
    rw [show ([e] : List Int).length = 1 from rfl]
    have v2 : lV s b l first e row V (7 * (l + ((1 : Nat) : Int) - 1) + 2) = row := by
      unfold lV
      rw [if_neg (by omega), if_neg (by omega), if_pos (by omega)]
    have v3 : lV s b l first e row V (7 * (l + ((1 : Nat) : Int) - 1) + 3) = lH s b first e := by
      unfold lV
      rw [if_neg (by omega), if_neg (by omega), if_neg (by omega), if_pos (by omega)]
    rw [v2, v3]
    omega
  | e :: e2 :: es, l, first, row, V, _ => by
    have ih := FR_V (s := s) (b := b) (e2 :: es) (l + 1) e (row + (lH s b first e + s 79)) (lV s b l first e row V) (by simp)
    rw [show l + 1 + ((e2 :: es).length : Int) - 1 = l + ((e :: e2 :: es).length : Int) - 1 by simp only [List.length_cons]; omega] at ih
    exact ih
/-- only what is told of a layout at q changes -/
def dsf (q : Nat) (μ μ' : zMem) : Prop := gD μ' = gD μ ∧ gR μ' = gR μ ∧ gL μ' = gL μ ∧ ∀ j, ¬ (25 ≤ j ∧ j ≤ 28) → j ≠ q + 1 → j ≠ q + 2 → j ≠ q + 3 → gI μ' j = gI μ j
theorem dsf.rf {q : Nat} {μ : zMem} : dsf q μ μ := ⟨rfl, rfl, rfl, fun _ _ _ _ _ => rfl⟩
theorem dsf.tr {q : Nat} {μ μ' μ'' : zMem} (h : dsf q μ μ') (h' : dsf q μ' μ'') : dsf q μ μ'' := ⟨h'.1.trans h.1, h'.2.1.trans h.2.1, h'.2.2.1.trans h.2.2.1, fun j a b c e => (h'.2.2.2 j a b c e).trans (h.2.2.2 j a b c e)⟩
theorem dsf.sp {q : Nat} {μ μ' : zMem} {s : Int → Int} {b : Int} (h : dsf q μ μ') (hq : 65 ≤ q) (hs : SP s b μ) : SP s b μ' := hs.of (fun j a c => h.2.2.2 j (by omega) (by omega) (by omega) (by omega)) (fun i a c => by rw [h.2.2.2 11 (by omega) (by omega) (by omega) (by omega)])
theorem pX4_describeLine {d : Nat} {Q : zMem → Prop} {μ : zMem} {s : Int → Int} {b first k row l : Int} {q N : Nat} (hw : wf s) (b0 : 1 ≤ b) (b1 : b ≤ 12) (hs : SP s b μ) (l0 : 0 ≤ l) (l1 : l < 14) (f0 : 0 ≤ first) (fk : first < k) (k1 : k ≤ s 31) (r0 : 0 ≤ row) (r1 : row ≤ 100) (hf : fit s b first k row)
    (e1 : gI μ 24 l = first) (e2 : gI μ 24 (l + 1) = k) (hq : 65 ≤ q) (d0 : (gD μ)[q]? = some (2, 0)) (d2 : (gD μ)[q + 2]? = some (9, N)) (hN : 7 * l + 7 ≤ N) (hN' : N ≤ 1000) (hr : gR μ q 3 = some (q + 2))
    (hQ : ∀ μ', dsf q μ μ' → (∀ j, j ≠ 25 → j ≠ 26 → j ≠ q + 2 → gI μ' j = gI μ j) → (∀ i, i < first → gI μ' 25 i = gI μ 25 i ∧ gI μ' 26 i = gI μ 26 i) → (∀ C i, first ≤ i → i < k → gI μ' 25 i = lC s b first k row C i) → (∀ C i, first < i → i < k → gI μ' 26 i = lC s b first k row C (i - 1) + wd s b (i - 1)) →
      (∀ x, x < 7 * l → gI μ' (q + 2) x = gI μ (q + 2) x) → (∀ V x, 7 * l ≤ x → x < 7 * l + 7 → gI μ' (q + 2) x = lV s b l first k row V x) → Q μ') : kX4_describeLine (d + 2) q l row μ Q := by
  have hn := hw.2.2.1
  have hlb := lH_bd hw b0 b1 f0 fk k1
  refine bX4_describeLine ⟨by omega, by omega, by omega, by omega, ?_⟩
  rw [e1, e2, show l * 7 = 7 * l by omega]
  refine hs.1.h hw f0 fk k1 (pX4_slackOf hw b0 b1 hs.1 hs.2.1 f0 fk k1 r0 r1 (fun _ => ?_))
  rw [slV_eq hf]
  refine pX4_placeWords hw b0 b1 hs f0 fk k1 r0 hf ?_
  intro ξ g1 g2 g3 g4 g5
  have za : ∀ {ζ : zMem}, gD ζ = gD μ → ∀ c : Int, 0 ≤ c → c < 7 → zA ζ (q + 2) (7 * l + c) := fun {ζ} h c c0 c1 => zA_of (by rw [h]; exact d2) (by omega) (by omega) (by omega)
  have za0 : ∀ {ζ : zMem}, gD ζ = gD μ → zA ζ (q + 2) (7 * l) := fun {ζ} h => zA_of (by rw [h]; exact d2) (by omega) (by omega) (by omega)
  refine ⟨by rw [g1.1]; exact d0, by rw [g1.2.1]; exact hr, za0 g1.1, za g1.1 1 (by omega) (by omega), za g1.1 2 (by omega) (by omega), za g1.1 3 (by omega) (by omega), ?_⟩
  generalize hν : sI (sI (sI (sI ξ (q + 2) (7 * l) first) (q + 2) (7 * l + 1) (k - first)) (q + 2) (7 * l + 2) row) (q + 2) (7 * l + 3) (lH s b first k) = ν
  have nD : gD ν = gD μ := by rw [← hν]; exact g1.1
  have nR : gR ν = gR μ := by rw [← hν]; exact g1.2.1
  have nL : gL ν = gL μ := by rw [← hν]; exact g1.2.2.1
  have nq : ∀ j, j ≠ q + 2 → gI ν j = gI ξ j := fun j h => by rw [← hν, gI_sIn h, gI_sIn h, gI_sIn h, gI_sIn h]
  have spν : SP s b ν := hs.of (fun j a c => by rw [nq j (by omega)]; exact g2 j (by omega) (by omega)) (fun i a c => by rw [nq 11 (by omega), g2 11 (by omega) (by omega)])
  refine spν.1.w hw f0 fk k1 ⟨za nD 4 (by omega) (by omega), by rw [nD]; exact d0, by rw [nR]; exact hr, ?_⟩
  generalize hκ : sI ν (q + 2) (7 * l + 4) (lW s b first k) = κ
  have kD : gD κ = gD μ := by rw [← hκ]; exact nD
  have kR : gR κ = gR μ := by rw [← hκ]; exact nR
  have kL : gL κ = gL μ := by rw [← hκ]; exact nL
  have kq : ∀ j, j ≠ q + 2 → gI κ j = gI ξ j := fun j h => by rw [← hκ, gI_sIn h]; exact nq j h
  have spκ : SP s b κ := hs.of (fun j a c => by rw [kq j (by omega)]; exact g2 j (by omega) (by omega)) (fun i a c => by rw [kq 11 (by omega), g2 11 (by omega) (by omega)])
  refine pX0_firstOf (spκ.2.1.lh hw b0 b1 f0 fk k1) r0 hlb.1 hf.1 ⟨za kD 5 (by omega) (by omega), by rw [kD]; exact d0, by rw [kR]; exact hr, za kD 6 (by omega) (by omega), ?_⟩
  have fq : ∀ j, j ≠ q + 2 → gI (sI (sI κ (q + 2) (7 * l + 5) (SF s row (lH s b first k))) (q + 2) (7 * l + 6) (lS s b first k row)) j = gI ξ j := fun j h => by rw [gI_sIn h, gI_sIn h]; exact kq j h
  refine hQ _ ⟨kD, kR, kL, fun j a c e f => by rw [fq j e]; exact g2 j (by omega) (by omega)⟩ (fun j a c e => by rw [fq j e]; exact g2 j a c) (fun i a => by rw [fq 25 (by omega), fq 26 (by omega)]; exact g3 i a) (fun C i a c => by rw [fq 25 (by omega)]; exact g4 C i a c) (fun C i a c => by rw [fq 26 (by omega)]; exact g5 C i a c) (fun x a => ?_) (fun V x a c => ?_)
  · rw [gI_sIo (by omega), gI_sIo (by omega), ← hκ, gI_sIo (by omega), ← hν, gI_sIo (by omega), gI_sIo (by omega), gI_sIo (by omega), gI_sIo (by omega), g2 (q + 2) (by omega) (by omega)]
  · rw [← hκ, ← hν]
    unfold lV
    by_cases h6 : x = 7 * l + 6
    · rw [h6, gI_sIs]
      repeat (first | rw [if_pos rfl] | rw [if_neg (by omega)])
    by_cases h5 : x = 7 * l + 5
    · rw [h5, gI_sIo (by omega), gI_sIs]
      repeat (first | rw [if_pos rfl] | rw [if_neg (by omega)])
    by_cases h4 : x = 7 * l + 4
    · rw [h4, gI_sIo (by omega), gI_sIo (by omega), gI_sIs]
      repeat (first | rw [if_pos rfl] | rw [if_neg (by omega)])
    by_cases h3 : x = 7 * l + 3
    · rw [h3, gI_sIo (by omega), gI_sIo (by omega), gI_sIo (by omega), gI_sIs]
      repeat (first | rw [if_pos rfl] | rw [if_neg (by omega)])
    by_cases h2 : x = 7 * l + 2
    · rw [h2, gI_sIo (by omega), gI_sIo (by omega), gI_sIo (by omega), gI_sIo (by omega), gI_sIs]
      repeat (first | rw [if_pos rfl] | rw [if_neg (by omega)])
    by_cases h1 : x = 7 * l + 1
    · rw [h1, gI_sIo (by omega), gI_sIo (by omega), gI_sIo (by omega), gI_sIo (by omega), gI_sIo (by omega), gI_sIs]
      repeat (first | rw [if_pos rfl] | rw [if_neg (by omega)])
    have h0 : x = 7 * l := by omega
    rw [h0, gI_sIo (by omega), gI_sIo (by omega), gI_sIo (by omega), gI_sIo (by omega), gI_sIo (by omega), gI_sIo (by omega), gI_sIs, if_pos rfl]
