/-! the lines of a layout -/
def inc (n : Int) : Int → List Int → Prop
  | first, [] => first = n
  | first, e :: es => first < e ∧ inc n e es
def nx : List Int → Int → Int
  | [], e => e
  | e2 :: _, _ => e2
def lnF : List Int → Int → Int → Int
  | [], first, _ => first
  | e :: es, first, i => if i < e then first else lnF es e i
def lnE : List Int → Int → Int → Int
  | [], first, _ => first
  | e :: es, _, i => if i < e then e else lnE es e i
def lnN : List Int → Int → Int → Int
  | [], first, _ => first
  | e :: es, _, i => if i < e then nx es e else lnN es e i
def lnO : List Int → Int → Int → Int
  | [], l, _ => l
  | e :: es, l, i => if i < e then l else lnO es (l + 1) i
theorem inc_le {n : Int} : ∀ (es : List Int) (first : Int), inc n first es → first + es.length ≤ n
  | [], first, h => by
    have : first = n := h
    simp [this]
  | e :: es, first, h => by
    have := inc_le es e h.2
    have h1 : first < e := h.1
    rw [List.length_cons]
    omega
theorem lnO_ge : ∀ (es : List Int) (l i : Int), l ≤ lnO es l i
  | [], l, i => Int.le_refl _
  | e :: es, l, i => by
    have := lnO_ge es (l + 1) i
    unfold lnO
    split <;> omega
theorem lnO_le {n : Int} : ∀ (es : List Int) (first l i : Int), inc n first es → first ≤ i → i < n → lnO es l i - l ≤ i - first ∧ lnO es l i < l + es.length
  | [], first, l, i, h, a, b => by
    have : first = n := h
    omega
  | e :: es, first, l, i, h, a, b => by
    have h1 : first < e := h.1
    unfold lnO
    rw [List.length_cons]
    by_cases hi : i < e
    · rw [if_pos hi]
      omega
    · rw [if_neg hi]
      have := lnO_le es e (l + 1) i h.2 (by omega) b
      omega
theorem ln_k {n : Int} : ∀ (es : List Int) (first k : Int), inc n first es → first ≤ k → k < n → first ≤ lnF es first k ∧ lnF es first k ≤ k ∧ k < lnE es first k ∧ lnE es first k ≤ lnN es first k ∧ lnN es first k ≤ n
  | [], first, k, h, a, b => by
    have : first = n := h
    omega
  | e :: es, first, k, h, a, b => by
    have h1 : first < e := h.1
    unfold lnF lnE lnN
    by_cases hi : k < e
    · rw [if_pos hi, if_pos hi, if_pos hi]
      cases es with
      | nil =>
        have : e = n := h.2
        exact ⟨by omega, by omega, by omega, Int.le_refl _, by show e ≤ n; omega⟩
      | cons e2 es =>
        have h2 : e < e2 := h.2.1
        have h3 := inc_le es e2 h.2.2
        exact ⟨by omega, by omega, by omega, by show e ≤ e2; omega, by show e2 ≤ n; omega⟩
    · rw [if_neg hi, if_neg hi, if_neg hi]
      have := ln_k es e k h.2 (by omega) b
      omega
theorem ln_i {n : Int} : ∀ (es : List Int) (first l k i : Int), inc n first es → first ≤ k → k < i → i < n → (i < lnE es first k → lnO es l i = lnO es l k ∧ lnF es first i = lnF es first k) ∧ (lnE es first k ≤ i → i < lnN es first k → lnO es l i = lnO es l k + 1 ∧ lnF es first i = lnE es first k) ∧ (lnN es first k ≤ i → lnO es l k + 2 ≤ lnO es l i)
  | [], first, l, k, i, h, a, b, c => by
    have : first = n := h
    omega
  | e :: es, first, l, k, i, h, a, b, c => by
    have h1 : first < e := h.1
    unfold lnF lnE lnN lnO
    by_cases hk : k < e
    · rw [if_pos hk, if_pos hk, if_pos hk, if_pos hk]
      by_cases hi : i < e
      · rw [if_pos hi, if_pos hi]
        refine ⟨fun _ => ⟨rfl, rfl⟩, fun q => by omega, fun q => ?_⟩
        cases es with
        | nil => have q' : e ≤ i := q; omega
        | cons e2 es =>
          have h2 : e < e2 := h.2.1
          have q' : e2 ≤ i := q
          omega
      · rw [if_neg hi, if_neg hi]
        refine ⟨fun q => absurd q hi, fun _ q => ?_, fun q => ?_⟩
        · cases es with
          | nil => have q' : i < e := q; omega
          | cons e2 es =>
            have q' : i < e2 := q
            unfold lnO lnF
            rw [if_pos q', if_pos q']
            exact ⟨rfl, rfl⟩
        · cases es with
          | nil =>
            have : e = n := h.2
            omega
          | cons e2 es =>
            have q' : e2 ≤ i := q
            unfold lnO
            rw [if_neg (by omega)]
            have := lnO_ge es (l + 1 + 1) i
            omega
    · have hi : ¬ i < e := by omega
      rw [if_neg hk, if_neg hk, if_neg hk, if_neg hk, if_neg hi, if_neg hi]
      exact ln_i es e (l + 1) k i h.2 (by omega) b c
theorem FO_eq {n : Int} : ∀ (es : List Int) (first l : Int) (O : Int → Int) (i : Int), inc n first es → i < n → FO es l first O i = if i < first then O i else lnO es l i
  | [], first, l, O, i, h, b => by
    have : first = n := h
    rw [if_pos (by omega)]
    rfl
  | e :: es, first, l, O, i, h, b => by
    have h1 : first < e := h.1
    show FO es (l + 1) e (lO l first O) i = _
    rw [FO_eq es e (l + 1) (lO l first O) i h.2 b]
    unfold lO lnO
    by_cases hi : i < first
    · rw [if_pos (by omega), if_neg (by omega), if_pos hi]
    · rw [if_neg hi]
      by_cases he : i < e
      · rw [if_pos he, if_pos (by omega), if_pos he]
      · rw [if_neg he, if_neg he]
        cases es <;> rfl
theorem FV_lo {s : Int → Int} {b : Int} : ∀ (es : List Int) (first l row : Int) (V : Int → Int) (x : Int), x < 7 * l → FV s b es l first row V x = V x
  | [], first, l, row, V, x, h => rfl
  | e :: es, first, l, row, V, x, h => by
    show FV s b es (l + 1) e (row + (lH s b first e + s 79)) (lV s b l first e row V) x = V x
    rw [FV_lo es e (l + 1) _ _ x (by omega)]
    unfold lV
    rw [if_neg (by omega), if_neg (by omega), if_neg (by omega), if_neg (by omega), if_neg (by omega), if_neg (by omega), if_neg (by omega)]
theorem FV_first {n : Int} {s : Int → Int} {b : Int} : ∀ (es : List Int) (first l row : Int) (V : Int → Int) (i : Int), inc n first es → first ≤ i → i < n → FV s b es l first row V (7 * lnO es l i) = lnF es first i
  | [], first, l, row, V, i, h, a, c => by
    have : first = n := h
    omega
  | e :: es, first, l, row, V, i, h, a, c => by
    show FV s b es (l + 1) e (row + (lH s b first e + s 79)) (lV s b l first e row V) (7 * lnO (e :: es) l i) = _
    unfold lnO lnF
    by_cases he : i < e
    · rw [if_pos he, if_pos he, FV_lo es e (l + 1) _ _ _ (by omega)]
      unfold lV
      rw [if_pos rfl]
    · rw [if_neg he, if_neg he]
      exact FV_first es e (l + 1) _ _ i h.2 (by omega) c
/-- all lines are allowed -/
def okAll (s : Int → Int) (b : Int) : List Int → Int → Int → Int → (Int → Int) → (Int → Int) → Prop
  | [], first, _, _, _, _ => first = s 31
  | e :: es, first, row, pf, C, U => first < e ∧ e ≤ s 31 ∧ okL s b first e row pf C U = true ∧ okAll s b es e (row + (lH s b first e + s 79)) first (lC s b first e row C) (lU s b (lC s b first e row C) U pf first)
theorem okAll_inc {s : Int → Int} {b : Int} : ∀ (es : List Int) (first row pf : Int) (C U : Int → Int), okAll s b es first row pf C U → inc (s 31) first es
  | [], first, row, pf, C, U, h => h
  | e :: es, first, row, pf, C, U, h => ⟨h.1, okAll_inc es _ _ _ _ _ h.2.2.2⟩
theorem evc_ok {s : Int → Int} {b : Int} {c : Nat} : ∀ (r : Nat) (first row pf : Int) (C U : Int → Int) (v : Int) (es : List Int), first < s 31 - r → evc s b c r first row pf C U = some (v, es) → okAll s b es first row pf C U
  | 0, first, row, pf, C, U, v, es, f1, h => by
    unfold evc at h
    by_cases ho : okL s b first (s 31) row pf C U = true
    · rw [if_pos ho] at h
      injection h with h
      injection h with ha hb
      rw [← hb]
      exact ⟨by omega, Int.le_refl _, ho, rfl⟩
    · rw [if_neg ho] at h
      cases h
  | r + 1, first, row, pf, C, U, v, es, f1, h => by
    rw [evc_s] at h
    by_cases hb : c.testBit r = true
    · rw [if_pos hb] at h
      by_cases ho : okL s b first (s 31 - (r + 1)) row pf C U = true
      · rw [if_pos ho] at h
        cases he : evc s b c r (s 31 - (r + 1)) (row + (lH s b first (s 31 - (r + 1)) + s 79)) first (lC s b first (s 31 - (r + 1)) row C) (lU s b (lC s b first (s 31 - (r + 1)) row C) U pf first) with
        | none => rw [he] at h; cases h
        | some e =>
          obtain ⟨v', es'⟩ := e
          have ih := evc_ok r _ _ _ _ _ v' es' (by omega) he
          rw [he] at h
          injection h with h
          injection h with ha hb
          rw [← hb]
          exact ⟨by omega, by omega, ho, ih⟩
      · rw [if_neg ho] at h
        cases h
    · rw [if_neg hb] at h
      by_cases hm : s (32 + 3 * (s 31 - (r + 1)) + 2) = 0
      · rw [if_pos hm] at h
        exact evc_ok r _ _ _ _ _ v es (by omega) h
      · rw [if_neg hm] at h
        cases h
theorem PI_fin {s : Int → Int} {b : Int} (hw : wf s) (b0 : 1 ≤ b) (b1 : b ≤ 12) : ∀ (es : List Int) (l first row pf lg : Int) (C U V O : Int → Int), okAll s b es first row pf C U → PI s l first pf lg C U V O → ∃ pf', PI s (FL es l) (s 31) pf' (FG s b es first row pf lg C U) (FC s b es first row C) (FU s b es first row pf C U) (FV s b es l first row V) (FO es l first O)
  | [], l, first, row, pf, lg, C, U, V, O, h, hp => by
    have e : first = s 31 := h
    rw [← e]
    exact ⟨pf, hp⟩
  | e :: es, l, first, row, pf, lg, C, U, V, O, h, hp => PI_fin hw b0 b1 es _ _ _ _ _ _ _ _ _ h.2.2.2 (PI_step hp hw b0 b1 h.1 h.2.1 h.2.2.1)
theorem FL_eq : ∀ (es : List Int) (l : Int), FL es l = l + es.length
  | [], l => by simp [FL]
  | e :: es, l => by
    unfold FL
    rw [FL_eq es (l + 1), List.length_cons]
    omega
/-- the longest chains that begin with the gaps -/
def FD (s : Int → Int) (b : Int) (C : Int → Int) : List Int → Int → Int → Int
  | [], _ => c0
  | e :: es, _ => fun i => if i < e then 1 + mx s b C (FD s b C es e) e i (nx es e - e - 1).toNat else FD s b C es e i
theorem mx_congr {s : Int → Int} {b : Int} {C U U' : Int → Int} {lo w : Int} : ∀ j : Nat, (∀ i : Nat, i < j → U (lo + 1 + i) = U' (lo + 1 + i)) → mx s b C U lo w j = mx s b C U' lo w j
  | 0, _ => rfl
  | j + 1, h => by
    unfold mx
    rw [mx_congr j (fun i hi => h i (by omega)), h j (by omega)]
theorem FD_eq {n : Int} {s : Int → Int} {b : Int} {C : Int → Int} : ∀ (es : List Int) (first i : Int), inc n first es → first ≤ i → i < n → FD s b C es first i = 1 + mx s b C (FD s b C es first) (lnE es first i) i (lnN es first i - lnE es first i - 1).toNat
  | [], first, i, h, a, c => by
    have : first = n := h
    omega
  | e :: es, first, i, h, a, c => by
    show (if i < e then 1 + mx s b C (FD s b C es e) e i (nx es e - e - 1).toNat else FD s b C es e i) = _
    unfold lnE lnN
    by_cases he : i < e
    · rw [if_pos he, if_pos he, if_pos he]
      congr 1
      refine mx_congr _ (fun j hj => ?_)
      show _ = if _ then _ else _
      rw [if_neg (by omega)]
    · rw [if_neg he, if_neg he, if_neg he, FD_eq es e i h.2 (by omega) c]
      congr 1
      refine mx_congr _ (fun j hj => ?_)
      show _ = if _ then _ else _
      have := ln_k es e i h.2 (by omega) c
      rw [if_neg (by omega)]
theorem FD_bd {n : Int} {s : Int → Int} {b : Int} {C : Int → Int} : ∀ (es : List Int) (first i : Int), inc n first es → 0 ≤ FD s b C es first i ∧ FD s b C es first i ≤ es.length
  | [], first, i, h => by simp [FD, c0]
  | e :: es, first, i, h => by
    show 0 ≤ (if i < e then 1 + mx s b C (FD s b C es e) e i (nx es e - e - 1).toNat else FD s b C es e i) ∧ (if i < e then 1 + mx s b C (FD s b C es e) e i (nx es e - e - 1).toNat else FD s b C es e i) ≤ _
    have h1 := mx_bd (s := s) (b := b) (C := C) (U := FD s b C es e) (lo := e) (w := i) (l := es.length) (by omega) (nx es e - e - 1).toNat (fun j _ => (FD_bd es e _ h.2).2)
    have h2 := FD_bd (s := s) (b := b) (C := C) es e i h.2
    rw [List.length_cons]
    split <;> omega
/-- the length of the longest chain that has the gap before a word -/
def FW (s : Int → Int) (b : Int) (es : List Int) (i : Int) : Int := if i = lnF es 0 i then 0 else FU s b es 0 (s 78) 0 c0 c0 i + FD s b (FC s b es 0 (s 78) c0) es 0 i - 1
def dnV (s : Int → Int) (b : Int) (C D : Int → Int) (es : List Int) (k i : Int) : Int := if k = lnF es 0 k then 0 else 1 + mx s b C D (lnE es 0 k) k ((if i < lnN es 0 k then i else lnN es 0 k) - lnE es 0 k - 1).toNat
theorem pX8_chains {d : Nat} {Q : zMem → Prop} {μ : zMem} {s U V : Int → Int} {b l lg : Int} {es : List Int} (hr : rowIs μ s) (hw : wf s) (b0 : 1 ≤ b) (b1 : b ≤ 12) (hi : inc (s 31) 0 es)
    (hm : MD s b (FL es 0) (s 31) lg (FC s b es 0 (s 78) c0) (FU s b es 0 (s 78) 0 c0 c0) (FV s b es 0 0 (s 78) c0) (FO es 0 0 c0) μ) (bc : ∀ i, 0 ≤ i → i < s 31 → -1 ≤ FC s b es 0 (s 78) c0 i ∧ FC s b es 0 (s 78) c0 i ≤ 9000)
    (hQ : ∀ μ', fsp μ μ' → (∀ q, q ≠ 60 → q ≠ 62 → gI μ' q = gI μ q) → plc s b (FC s b es 0 (s 78) c0) (lnO es 0) 0 (s 31) μ' → (∀ i, 0 ≤ i → i < s 31 → gI μ' 60 (5 * i + 4) = FW s b es i) → Q μ') : kX8_chains (d + 2) μ Q := by
  have hn := hw.2.2.1
  obtain ⟨m1, m2, m3, m4, m5⟩ := hm
  have hlen := inc_le es 0 hi
  rw [FL_eq] at m3
  generalize hC : FC s b es 0 (s 78) c0 = C at *
  have plc0 : plc s b C (lnO es 0) 0 (s 31) μ := fun i a c => by
    have := m4 i a c
    rw [FO_eq es 0 0 c0 i hi c, if_neg (by omega)] at this
    exact this
  have ob : ∀ i, 0 ≤ i → i < s 31 → 0 ≤ lnO es 0 i ∧ lnO es 0 i < 14 ∧ lnO es 0 i < es.length := fun i a c => by
    have h1 := lnO_ge es 0 i
    have h2 := lnO_le es 0 0 i hi a c
    omega
  have vf : ∀ i, 0 ≤ i → i < s 31 → gI μ 59 (7 * lnO es 0 i) = lnF es 0 i := fun i a c => by
    have h1 := ob i a c
    rw [m3 _ (by omega) (by omega)]
    exact FV_first es 0 0 (s 78) c0 i hi a c
  have wdb : ∀ i, 0 ≤ i → i < s 31 → 1 ≤ wd s b i ∧ wd s b i ≤ 240 := fun i a c => wd_bd hw b0 b1 a c
  have Dbd := fun i => FD_bd (s := s) (b := b) (C := C) es 0 i hi
  -- what stands while words are looked at from the last down
  have outer : ∀ (n : Nat) (ξ : zMem), (n : Int) ≤ s 31 → fsp μ ξ → (∀ q, q ≠ 60 → q ≠ 62 → gI ξ q = gI μ q) → plc s b C (lnO es 0) 0 (s 31) ξ → (∀ i, (n : Int) ≤ i → i < s 31 → gI ξ 60 (5 * i + 4) = FW s b es i ∧ (i ≠ lnF es 0 i → gI ξ 62 i = FD s b C es 0 i)) → zX8_chains_10 (d + 1) Q ((n : Int) - 1) ξ := by
    intro n
    induction n with
    | zero =>
      intro ξ hn0 h1 h2 h3 h4
      refine bX8_chains_10 ⟨zi _, fun _ => hQ ξ h1 h2 h3 (fun i a c => (h4 i (by omega) c).1), fun h => absurd (by omega) h⟩
    | succ k ih =>
      intro ξ hnk h1 h2 h3 h4
      rw [show ((k + 1 : Nat) : Int) - 1 = (k : Int) by omega]
      have lk := ln_k es 0 k hi (by omega) (by omega)
      have ok := ob k (by omega) (by omega)
      refine bX8_chains_10 ⟨zi _, fun h => absurd h (by omega), fun _ => ?_⟩
      have gapk : ∀ ζ : zMem, (∀ q, q ≠ 60 → q ≠ 62 → gI ζ q = gI μ q) → plc s b C (lnO es 0) 0 (s 31) ζ → ∀ {d' : Nat} {Q' : Int → zMem → Prop}, Q' (b2 ((k : Int) ≠ lnF es 0 k)) ζ → kX8_hasGap d' k ζ Q' := fun ζ z1 z2 d' Q' hq => pX8_hasGap (lo := lnO es 0 k) (fo := lnF es 0 k) (by omega) (by omega) (z2 k (by omega) (by omega)).2.2.2 (by omega) (by omega) (by rw [z1 59 (by decide) (by decide)]; exact vf k (by omega) (by omega)) (by omega) (by omega) hq
      refine gapk ξ h2 h3 ⟨b2_in _, by omega, by omega, ?_⟩
      rw [b2_ite]
      have e0 : b2 ((k : Int) ≠ lnF es 0 k) = dnV s b C (FD s b C es 0) es k ((k : Int) + 1) := by
        unfold dnV b2
        by_cases h : (k : Int) = lnF es 0 k
        · rw [if_pos h, if_neg (fun q => q h)]
        · rw [if_neg h, if_pos h]
          have : ((if (k : Int) + 1 < lnN es 0 k then (k : Int) + 1 else lnN es 0 k) - lnE es 0 k - 1).toNat = 0 := by split <;> omega
          rw [this]
          rfl
      rw [e0]
      have fin : ∀ ζ : zMem, fsp μ ζ → (∀ q, q ≠ 60 → q ≠ 62 → gI ζ q = gI μ q) → plc s b C (lnO es 0) 0 (s 31) ζ → (∀ i, ((k + 1 : Nat) : Int) ≤ i → i < s 31 → gI ζ 60 (5 * i + 4) = FW s b es i ∧ (i ≠ lnF es 0 i → gI ζ 62 i = FD s b C es 0 i)) → ((k : Int) ≠ lnF es 0 k → gI ζ 62 k = FD s b C es 0 k) → zX8_chains_146 (d + 1) Q k ζ := by
        intro ζ i1 i2 i3 i4 i5
        refine bX8_chains_146 ?_
        refine gapk ζ i2 i3 ⟨⟨b2_in _, fun _ => trivial, fun _ => by omega⟩, by omega, by omega, ?_⟩
        rw [show (k : Int) + -1 = (k : Int) - 1 by omega]
        refine ih _ (by omega) ⟨⟨i1.1.1.sI (by omega), by rw [gI_sIn (by decide)]; exact i1.1.2.1, by rw [gI_sIn (by decide)]; exact i1.1.2.2.1, by rw [gI_sIn (by decide)]; exact i1.1.2.2.2.1, by rw [gI_sIn (by decide)]; exact i1.1.2.2.2.2⟩, by rw [gI_sIn (by decide)]; exact i1.2.1, by rw [gI_sIn (by decide)]; exact i1.2.2⟩ (fun q a c => by rw [gI_sIn a]; exact i2 q a c) (fun i a c => by
          have := i3 i a c
          rw [gI_sIo (by omega), gI_sIo (by omega), gI_sIo (by omega), gI_sIo (by omega)]
          exact this) (fun i a c => ?_)
        rw [gI_sIn (show (62 : Nat) ≠ 60 by decide)]
        by_cases e : i = k
        · rw [e]
          refine ⟨?_, i5⟩
          rw [gI_sIs]
          unfold FW
          rw [hC]
          by_cases hg : (k : Int) = lnF es 0 k
          · rw [if_pos hg, if_pos (b2_0.mpr (fun q => q hg))]
          · have b1' : b2 ((k : Int) ≠ lnF es 0 k) = 1 := b2_1.mpr hg
            rw [if_neg hg, b1', if_neg (by decide), i5 hg, i2 61 (by decide) (by decide), m5 k (by omega) (by omega)]
        · rw [gI_sIo (by omega)]
          exact i4 i (by omega) c
      have inner : ∀ (m : Nat) (i : Int) (ζ : zMem), i + m = s 31 → (k : Int) < i → fsp μ ζ → (∀ q, q ≠ 60 → q ≠ 62 → gI ζ q = gI μ q) → plc s b C (lnO es 0) 0 (s 31) ζ → (∀ i, ((k + 1 : Nat) : Int) ≤ i → i < s 31 → gI ζ 60 (5 * i + 4) = FW s b es i ∧ (i ≠ lnF es 0 i → gI ζ 62 i = FD s b C es 0 i)) → gI ζ 62 k = dnV s b C (FD s b C es 0) es k i → zX8_chains_37 (d + 1) Q k i ζ := by
        intro m
        induction m with
        | zero =>
          intro i ζ hm0 hik i1 i2 i3 i4 i5
          refine bX8_chains_37 ⟨zi _, by rw [i1.1.row hr 31 (by omega) (by omega)]; exact zi _, fun _ => fin ζ i1 i2 i3 i4 (fun hg => ?_), fun h => absurd (by rw [i1.1.row hr 31 (by omega) (by omega)]; omega) h⟩
          rw [i5]
          unfold dnV
          rw [if_neg hg, FD_eq es 0 k hi (by omega) (by omega)]
          have : (if i < lnN es 0 k then i else lnN es 0 k) = lnN es 0 k := by split <;> omega
          rw [this]
        | succ m ihm =>
          intro i ζ hm0 hik i1 i2 i3 i4 i5
          have r31 := i1.1.row hr 31 (by omega) (by omega)
          refine bX8_chains_37 ⟨zi _, by rw [r31]; exact zi _, fun h => absurd h (by rw [r31]; omega), fun _ => ?_⟩
          refine gapk ζ i2 i3 ⟨b2_in _, fun hg => ?_, fun hg => ?_⟩
          · rw [b2_0, Classical.not_not] at hg
            exact fin ζ i1 i2 i3 i4 (fun q => absurd hg q)
          rw [b2_0, Classical.not_not] at hg
          have pi := i3 i (by omega) (by omega)
          have pk := i3 k (by omega) (by omega)
          have oi := ob i (by omega) (by omega)
          have li := ln_k es 0 i hi (by omega) (by omega)
          have lik := ln_i es 0 0 k i hi (by omega) hik (by omega)
          have dkv : gI ζ 62 k = 1 + mx s b C (FD s b C es 0) (lnE es 0 k) k ((if i < lnN es 0 k then i else lnN es 0 k) - lnE es 0 k - 1).toNat := by
            rw [i5]
            unfold dnV
            rw [if_neg hg]
          have mb := mx_bd (s := s) (b := b) (C := C) (U := FD s b C es 0) (lo := lnE es 0 k) (w := k) (l := es.length) (by omega) ((if i < lnN es 0 k then i else lnN es 0 k) - lnE es 0 k - 1).toNat (fun j _ => (Dbd _).2)
          have next : ∀ (t : Int), zIn t → (¬ t = 0 → i ≠ lnF es 0 i) → (if t = 0 then gI ζ 62 k else if gI ζ 62 i + 1 ≤ gI ζ 62 k then gI ζ 62 k else gI ζ 62 i + 1) = dnV s b C (FD s b C es 0) es k (i + 1) → zX8_chains_95 (d + 1) Q k i t ζ := by
            intro t tz tg te
            refine bX8_chains_95 ⟨⟨tz, fun _ => by omega, fun h => ⟨by omega, by omega, by omega, by omega, ?_, ?_⟩⟩, by omega, by omega, ?_⟩
            · rw [(i4 i (by omega) (by omega)).2 (tg h)]
              have := Dbd i
              exact zi _
            · rw [dkv]
              exact zi _
            rw [te]
            refine ihm (i + 1) _ (by omega) (by omega) ⟨⟨i1.1.1.sI (by omega), by rw [gI_sIn (by decide)]; exact i1.1.2.1, by rw [gI_sIn (by decide)]; exact i1.1.2.2.1, by rw [gI_sIn (by decide)]; exact i1.1.2.2.2.1, by rw [gI_sIn (by decide)]; exact i1.1.2.2.2.2⟩, by rw [gI_sIn (by decide)]; exact i1.2.1, by rw [gI_sIn (by decide)]; exact i1.2.2⟩ (fun q a c => by rw [gI_sIn c]; exact i2 q a c) (fun j a c => by rw [gI_sIn (by decide)]; exact i3 j a c) (fun j a c => by rw [gI_sIn (by decide), gI_sIo (by omega)]; exact i4 j a c) gI_sIs
          have same : ((if i + 1 < lnN es 0 k then i + 1 else lnN es 0 k) - lnE es 0 k - 1).toNat = ((if i < lnN es 0 k then i else lnN es 0 k) - lnE es 0 k - 1).toNat → gI ζ 62 k = dnV s b C (FD s b C es 0) es k (i + 1) := by
            intro e
            unfold dnV
            rw [if_neg hg, e]
            exact dkv
          refine ⟨by omega, by omega, by omega, by omega, by rw [pi.2.2.2]; exact zi _, by rw [pk.2.2.2]; exact zi _, fun hb => ?_, fun hb => ?_⟩
          · rw [pi.2.2.2, pk.2.2.2] at hb
            -- the line below
            have hE : lnE es 0 k ≤ i ∧ i < lnN es 0 k := by
              refine ⟨?_, ?_⟩
              · by_cases h : i < lnE es 0 k
                · have := (lik.1 h).1
                  omega
                · omega
              · by_cases h : lnN es 0 k ≤ i
                · have := lik.2.2 h
                  omega
                · omega
            have hFi := (lik.2.1 hE.1 hE.2).2
            have bi := bc i (by omega) (by omega)
            have bk := bc k (by omega) (by omega)
            have bk1 := bc ((k : Int) - 1) (by omega) (by omega)
            have dk1 := wdb ((k : Int) - 1) (by omega) (by omega)
            have pk1 := i3 ((k : Int) - 1) (by omega) (by omega)
            refine pX8_touch (la := lnO es 0 i) (lc := lnO es 0 k) (fa := lnF es 0 i) (fc := lnF es 0 k) (Ca := C i) (Cc := C k) (Ga := C (i - 1) + wd s b (i - 1)) (Gc := C ((k : Int) - 1) + wd s b ((k : Int) - 1)) (by omega) (by omega) (by omega) (by omega) pi.2.2.2 (by omega) (by omega) (by rw [i2 59 (by decide) (by decide)]; exact vf i (by omega) (by omega)) (by omega) (by omega) (by omega)
              pk.2.2.2 (by omega) (by omega) (by rw [i2 59 (by decide) (by decide)]; exact vf k (by omega) (by omega)) (by omega) (by omega) (by omega) pi.1 pk.1 (fun _ => ⟨_, _, (i3 (i - 1) (by omega) (by omega)).1, (i3 (i - 1) (by omega) (by omega)).2.1, rfl⟩) (fun _ => ⟨_, _, pk1.1, pk1.2.1, rfl⟩) (zi _) (zi _) (fun _ => ?_) (fun _ => zi _) ⟨b2_in _, ?_⟩
            · have bi1 := bc (i - 1) (by omega) (by omega)
              have di1 := wdb (i - 1) (by omega) (by omega)
              exact zi _
            rw [b2_ite]
            refine next _ (b2_in _) (fun h => by
              rw [b2_0, Classical.not_not] at h
              exact h.1) ?_
            by_cases hif : i = lnE es 0 k
            · have : b2 (i ≠ lnF es 0 i ∧ (k : Int) ≠ lnF es 0 k ∧ C (i - 1) + wd s b (i - 1) < C k ∧ C ((k : Int) - 1) + wd s b ((k : Int) - 1) < C i) = 0 := by
                rw [b2_0]
                exact fun q => q.1 (by omega)
              rw [if_pos this]
              exact same (by split <;> split <;> omega)
            · obtain ⟨j, hj⟩ : ∃ j : Nat, i = lnE es 0 k + 1 + j := ⟨(i - lnE es 0 k - 1).toNat, by omega⟩
              have t1 : ((if i < lnN es 0 k then i else lnN es 0 k) - lnE es 0 k - 1).toNat = j := by split <;> omega
              have t2 : ((if i + 1 < lnN es 0 k then i + 1 else lnN es 0 k) - lnE es 0 k - 1).toNat = j + 1 := by split <;> omega
              rw [t1] at dkv mb
              rw [dkv, (i4 i (by omega) (by omega)).2 (by omega)]
              unfold dnV
              rw [if_neg hg, t2]
              rw [show mx s b C (FD s b C es 0) (lnE es 0 k) k (j + 1) = if C (lnE es 0 k + j) + wd s b (lnE es 0 k + j) < C k ∧ C ((k : Int) - 1) + wd s b ((k : Int) - 1) < C (lnE es 0 k + 1 + j) ∧ mx s b C (FD s b C es 0) (lnE es 0 k) k j < FD s b C es 0 (lnE es 0 k + 1 + j) then FD s b C es 0 (lnE es 0 k + 1 + j) else mx s b C (FD s b C es 0) (lnE es 0 k) k j from rfl]
              rw [show lnE es 0 k + (j : Int) = i - 1 by omega, ← hj]
              by_cases tt : C (i - 1) + wd s b (i - 1) < C k ∧ C ((k : Int) - 1) + wd s b ((k : Int) - 1) < C i
              · have : b2 (i ≠ lnF es 0 i ∧ (k : Int) ≠ lnF es 0 k ∧ C (i - 1) + wd s b (i - 1) < C k ∧ C ((k : Int) - 1) + wd s b ((k : Int) - 1) < C i) = 1 := by
                  rw [b2_1]
                  exact ⟨by omega, hg, tt.1, tt.2⟩
                rw [this, if_neg (by decide)]
                simp only [tt.1, tt.2, true_and]
                split <;> split <;> omega
              · have : b2 (i ≠ lnF es 0 i ∧ (k : Int) ≠ lnF es 0 k ∧ C (i - 1) + wd s b (i - 1) < C k ∧ C ((k : Int) - 1) + wd s b ((k : Int) - 1) < C i) = 0 := by
                  rw [b2_0]
                  exact fun q => tt ⟨q.2.2.1, q.2.2.2⟩
                have nt : ¬ (C (i - 1) + wd s b (i - 1) < C k ∧ C ((k : Int) - 1) + wd s b ((k : Int) - 1) < C i ∧ mx s b C (FD s b C es 0) (lnE es 0 k) k j < FD s b C es 0 i) := fun q => tt ⟨q.1, q.2.1⟩
                rw [if_pos this, if_neg nt]
          · rw [pi.2.2.2, pk.2.2.2] at hb
            refine next 0 (zi _) (fun h => absurd rfl h) ?_
            rw [if_pos rfl]
            refine same ?_
            have hE : ¬ (lnE es 0 k ≤ i ∧ i < lnN es 0 k) := fun q => hb (lik.2.1 q.1 q.2).1
            split <;> split <;> omega
      have h0 := inner (s 31 - (k + 1)).toNat ((k : Int) + 1) (sI ξ 62 k (dnV s b C (FD s b C es 0) es k ((k : Int) + 1))) (by omega) (by omega) ⟨⟨h1.1.1.sI (by omega), by rw [gI_sIn (by decide)]; exact h1.1.2.1, by rw [gI_sIn (by decide)]; exact h1.1.2.2.1, by rw [gI_sIn (by decide)]; exact h1.1.2.2.2.1, by rw [gI_sIn (by decide)]; exact h1.1.2.2.2.2⟩, by rw [gI_sIn (by decide)]; exact h1.2.1, by rw [gI_sIn (by decide)]; exact h1.2.2⟩ (fun q a c => by rw [gI_sIn c]; exact h2 q a c) (fun i a c => by rw [gI_sIn (by decide)]; exact h3 i a c) (fun i a c => by rw [gI_sIn (by decide), gI_sIo (by omega)]; exact h4 i a c) gI_sIs
      exact h0
  refine bX8_chains ?_
  rw [hr 31 (by omega) (by omega)]
  have h0 := outer (s 31).toNat μ (by omega) fsp.rf (fun _ _ _ => rfl) plc0 (fun i a c => by omega)
  rw [show ((s 31).toNat : Int) - 1 = s 31 - 1 by omega] at h0
  exact h0
