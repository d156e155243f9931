/-! the class tries layouts line by line -/
def pth (ps : List Int) (p : Nat) (μ : zMem) : Prop := gI μ p 0 = 0 ∧ ∀ (i : Nat) (h : i < ps.length), gI μ p ((i : Int) + 1) = ps[i]
/-- the chains of a line, in the class's memory -/
theorem pX4_chainFromAbove {d : Nat} {Q : Int → zMem → Prop} {μ : zMem} {s C U : Int → Int} {b first k row pf l : Int} (hw : wf s) (b0 : 1 ≤ b) (b1 : b ≤ 12) (h27 : (gD μ)[27]? = some (9, 14)) (l0 : 0 ≤ l) (l1 : l < 14) (lf : l ≤ first) (fk : first < k) (k1 : k ≤ s 31) (p0 : 0 ≤ pf) (p1 : pf ≤ first)
    (e1 : gI μ 24 l = first) (e2 : gI μ 24 (l + 1) = k) (e3 : 0 < l → gI μ 24 (l - 1) = pf) (e4 : l = 0 → pf = first) (h25 : ∀ i, pf ≤ i → i < k → gI μ 25 i = C i) (h26 : ∀ i, pf < i → i < k → i ≠ first → gI μ 26 i = C (i - 1) + wd s b (i - 1)) (hU : ∀ i, pf < i → i < first → gI μ 27 i = U i) (bu : ∀ i, 0 ≤ i → i < first → 0 ≤ U i ∧ U i ≤ l) (bc : ∀ i, 0 ≤ i → i < k → -1 ≤ C i ∧ C i ≤ 9000)
    (hQ : ∀ μ', scf μ μ' → (∀ q, q ≠ 27 → gI μ' q = gI μ q) → (∀ i, i ≤ first → gI μ' 27 i = gI μ 27 i) → (∀ i, first < i → i < k → gI μ' 27 i = lU s b C U pf first i) → Q (Lg (lU s b C U pf first) first (k - first - 1).toNat) μ') : kX4_chainFromAbove (d + 1) l μ Q := by
  have hn := hw.2.2.1
  refine bX4_chainFromAbove ⟨l0, by omega, ⟨zi _, fun _ => trivial, fun _ => by omega⟩, ?_⟩
  rw [e1]
  have ef : (if l ≤ 0 then first else gI μ 24 (l - 1)) = pf := by
    by_cases h : l ≤ 0
    · rw [if_pos h, e4 (by omega)]
    · rw [if_neg h]; exact e3 (by omega)
  rw [ef]
  have loop : ∀ (n j : Nat) (ξ : zMem), first + 1 + j + n = k → scf μ ξ → (∀ q, q ≠ 27 → gI ξ q = gI μ q) → (∀ i, i ≤ first → gI ξ 27 i = gI μ 27 i) → (∀ i, first < i → i < first + 1 + j → gI ξ 27 i = lU s b C U pf first i) → zX4_chainFromAbove_32 d Q l first pf (Lg (lU s b C U pf first) first j) (first + 1 + j) ξ := by
    intro n
    induction n with
    | zero =>
      intro j ξ g0 g1 g2 g3 g4
      refine bX4_chainFromAbove_32 ⟨by omega, by omega, zi _, by rw [g2 24 (by decide), e2]; exact zi _, fun _ => ?_, fun q => absurd (by rw [g2 24 (by decide), e2]; omega) q⟩
      have e : (k - first - 1).toNat = j := by omega
      rw [e] at hQ
      exact hQ ξ g1 g2 g3 (fun i a c => g4 i a (by omega))
    | succ n ih =>
      intro j ξ g0 g1 g2 g3 g4
      have wdb := fun i a c => wd_bd (k := i) hw b0 b1 a c
      refine bX4_chainFromAbove_32 ⟨by omega, by omega, zi _, by rw [g2 24 (by decide), e2]; exact zi _, fun q => absurd q (by rw [g2 24 (by decide), e2]; omega), fun _ => ?_⟩
      have bw := bc (first + 1 + j) (by omega) (by omega)
      have bw1 := bc (first + 1 + j - 1) (by omega) (by omega)
      have dw1 := wdb (first + 1 + j - 1) (by omega) (by omega)
      have lub := lU_bd (s := s) (b := b) (C := C) (U := U) (pf := pf) (first := first) (l := l) (k := k) l0 p0 p1 bu
      refine pX4_longest (s := s) (b := b) (C := C) (D := U) (l := l) (by rw [g1.1]; exact h27) l0 (by omega) p0 (by omega) (by omega) (by omega) (by omega) (by omega) (fun i a c => ?_) (by rw [g2 25 (by decide)]; exact h25 _ (by omega) (by omega)) (by rw [g2 26 (by decide)]; exact h26 _ (by omega) (by omega) (by omega)) (zi _) (zi _) ⟨by omega, by omega, ?_⟩
      · have bi := bc i (by omega) (by omega)
        have bi1 := bc (i - 1) (by omega) (by omega)
        have di1 := wdb (i - 1) (by omega) (by omega)
        have ui := bu i (by omega) (by omega)
        exact ⟨by rw [g2 25 (by decide)]; exact h25 i (by omega) (by omega), by rw [g2 26 (by decide)]; exact h26 i a (by omega) (by omega), by rw [g3 i (by omega)]; exact hU i a c, ui.1, ui.2, zi _, zi _⟩
      · have eU : 1 + mx s b C U pf (first + 1 + j) (first - pf - 1).toNat = lU s b C U pf first (first + 1 + j) := by
          unfold lU
          rw [if_pos (by omega)]
        rw [gI_sIs, eU]
        have lb := Lg_bd (U := lU s b C U pf first) (first := first) (l := l + 1) (by omega) j (fun i hi => (lub (first + 1 + i) (by omega) (by omega)).2)
        have ub := lub (first + 1 + j) (by omega) (by omega)
        refine ⟨zi _, zi _, ?_⟩
        rw [show (if Lg (lU s b C U pf first) first j < lU s b C U pf first (first + 1 + j) then lU s b C U pf first (first + 1 + j) else Lg (lU s b C U pf first) first j) = Lg (lU s b C U pf first) first (j + 1) from rfl, show first + 1 + (j : Int) + 1 = first + 1 + ((j + 1 : Nat) : Int) by omega]
        refine ih (j + 1) _ (by omega) (g1.w (by omega)) (fun q a => by rw [gI_sIn a]; exact g2 q a) (fun i a => by rw [gI_sIo (by omega)]; exact g3 i a) (fun i a c => ?_)
        by_cases e : i = first + 1 + j
        · rw [e, gI_sIs]
        · rw [gI_sIo e]
          exact g4 i a (by omega)
  have h0 := loop (k - first - 1).toNat 0 μ (by omega) scf.rf (fun _ _ => rfl) (fun _ _ => rfl) (fun i a c => by omega)
  rw [show first + 1 + ((0 : Nat) : Int) = first + 1 by omega] at h0
  exact h0
/-- what has been found so far: how many, and the best -/
def stp (oc w : Int) (st : Int × Option (Int × List Int)) (e : Int × List Int) : Int × Option (Int × List Int) := if oc = 0 then (if st.1 < w then (st.1 + 1, st.2) else st) else match st.2 with | none => (st.1 + 1, some e) | some e0 => if e.1 < e0.1 then (st.1 + 1, some e) else st
def DM (oc w : Int) (st : Int × Option (Int × List Int)) (μ : zMem) : Prop := gI μ 11 12 = st.1 ∧ gI μ 11 13 = w ∧ gI μ 11 14 = oc ∧ (oc = 1 → ∀ e, st.2 = some e → gI μ 11 17 = e.1 ∧ gI μ 11 16 = (e.2.length : Int) ∧ pth e.2 29 μ)
def SI (oc w : Int) (st : Int × Option (Int × List Int)) : Prop := (oc = 0 ∨ oc = 1) ∧ (oc = 0 → 0 ≤ st.1 ∧ st.1 ≤ w ∧ w ≤ 2147483647) ∧ (oc = 1 → w = 2147483647 ∧ (st.2 = none → st.1 = 0) ∧ ∀ e, st.2 = some e → 1 ≤ st.1 ∧ 0 ≤ e.1 ∧ st.1 + e.1 ≤ 40000)
theorem SI_stp {oc w : Int} {st : Int × Option (Int × List Int)} {e : Int × List Int} (h : SI oc w st) (e0 : 0 ≤ e.1) (e1 : e.1 ≤ 39000) : SI oc w (stp oc w st e) := by
  obtain ⟨k, o⟩ := st
  obtain ⟨h1, h2, h3⟩ := h
  rcases h1 with h1 | h1
  · subst h1
    have h2' : 0 ≤ k ∧ k ≤ w ∧ w ≤ 2147483647 := h2 rfl
    have es : stp 0 w (k, o) e = if k < w then (k + 1, o) else (k, o) := rfl
    rw [es]
    by_cases lt : k < w
    · rw [if_pos lt]
      exact ⟨Or.inl rfl, fun _ => (show 0 ≤ k + 1 ∧ k + 1 ≤ w ∧ w ≤ 2147483647 by omega), fun q => absurd q (by decide)⟩
    · rw [if_neg lt]
      exact ⟨Or.inl rfl, fun _ => h2', fun q => absurd q (by decide)⟩
  · subst h1
    obtain ⟨a, c, g⟩ := h3 rfl
    cases o with
    | none =>
      have k0 : k = 0 := c rfl
      have es : stp 1 w (k, none) e = (k + 1, some e) := rfl
      rw [es]
      refine ⟨Or.inr rfl, fun q => absurd q (by decide), fun _ => ⟨a, fun q => (nomatch q), fun x hx => ?_⟩⟩
      have hx' : e = x := Option.some.inj hx
      rw [← hx']
      exact (show 1 ≤ k + 1 ∧ 0 ≤ e.1 ∧ k + 1 + e.1 ≤ 40000 by omega)
    | some e' =>
      have g' : 1 ≤ k ∧ 0 ≤ e'.1 ∧ k + e'.1 ≤ 40000 := g e' rfl
      have es : stp 1 w (k, some e') e = if e.1 < e'.1 then (k + 1, some e) else (k, some e') := rfl
      rw [es]
      by_cases lt : e.1 < e'.1
      · rw [if_pos lt]
        refine ⟨Or.inr rfl, fun q => absurd q (by decide), fun _ => ⟨a, fun q => (nomatch q), fun x hx => ?_⟩⟩
        have hx' : e = x := Option.some.inj hx
        rw [← hx']
        exact (show 1 ≤ k + 1 ∧ 0 ≤ e.1 ∧ k + 1 + e.1 ≤ 40000 by omega)
      · rw [if_neg lt]
        refine ⟨Or.inr rfl, fun q => absurd q (by decide), fun _ => ⟨a, fun q => (nomatch q), fun x hx => ?_⟩⟩
        have hx' : e' = x := Option.some.inj hx
        rw [← hx']
        exact g'
theorem fold_stop {oc w : Int} {st : Int × Option (Int × List Int)} (h : oc = 0 ∧ w ≤ st.1) (L : List (Int × List Int)) : L.foldl (stp oc w) st = st := by
  induction L with
  | nil => rfl
  | cons x L ih =>
    rw [List.foldl_cons]
    have : stp oc w st x = st := by
      unfold stp
      rw [if_pos h.1, if_neg (by omega)]
    rw [this]
    exact ih
theorem fold_dear {oc w : Int} {st : Int × Option (Int × List Int)} {e0 : Int × List Int} (h : oc = 1) (ho : st.2 = some e0) (L : List (Int × List Int)) (hl : ∀ x ∈ L, e0.1 ≤ x.1) : L.foldl (stp oc w) st = st := by
  induction L with
  | nil => rfl
  | cons x L ih =>
    rw [List.foldl_cons]
    have hx := hl x List.mem_cons_self
    have : stp oc w st x = st := by
      unfold stp
      rw [if_neg (by omega), ho]
      dsimp only
      rw [if_neg (by omega)]
    rw [this]
    exact ih (fun y hy => hl y (List.mem_cons_of_mem _ hy))
def compF (s : Int → Int) (b first row pf : Int) (C U : Int → Int) : List (Int × List Int) := if first = s 31 then [(0, [])] else comp s b (s 31 - 1 - first).toNat first row pf C U
theorem comp_bd {s : Int → Int} {b : Int} (hw : wf s) (b0 : 1 ≤ b) (b1 : b ≤ 12) (r : Nat) (first row pf : Int) (C U : Int → Int) (hr : (r : Int) + 1 ≤ s 31) (f0 : 0 ≤ first) : ∀ x ∈ comp s b r first row pf C U, 0 ≤ x.1 ∧ x.1 ≤ 2304 * (r + 1) := by
  intro x hx
  rw [comp_codes, List.mem_filterMap] at hx
  obtain ⟨c, _, hc⟩ := hx
  exact evc_bd hw b0 b1 r first row pf C U x.1 x.2 hr f0 hc
theorem compF_bd {s : Int → Int} {b : Int} (hw : wf s) (b0 : 1 ≤ b) (b1 : b ≤ 12) {first row pf : Int} {C U : Int → Int} (f0 : 0 ≤ first) (f1 : first ≤ s 31) : ∀ x ∈ compF s b first row pf C U, 0 ≤ x.1 ∧ x.1 ≤ 2304 * (s 31 - first) := by
  intro x hx
  unfold compF at hx
  by_cases e : first = s 31
  · rw [if_pos e] at hx
    simp only [List.mem_singleton] at hx
    subst hx
    dsimp only
    omega
  · rw [if_neg e] at hx
    have := comp_bd hw b0 b1 _ first row pf C U (by omega) f0 x hx
    omega
/-- the list from the line's end e on: the lines that end there, and the longer ones -/
theorem comp_F {s : Int → Int} {b : Int} {r : Nat} {first row pf e : Int} {C U : Int → Int} (he : s 31 - r = e) : comp s b r first row pf C U = (if okL s b first e row pf C U = true then (compF s b e (row + (lH s b first e + s 79)) first (lC s b first e row C) (lU s b (lC s b first e row C) U pf first)).map (fun x => (lS s b first e row * lS s b first e row + x.1, e :: x.2)) else []) ++ (if 0 < r ∧ s (32 + 3 * e + 2) = 0 then comp s b (r - 1) first row pf C U else []) := by
  cases r with
  | zero =>
    have : e = s 31 := by omega
    subst this
    rw [show comp s b 0 first row pf C U = if okL s b first (s 31) row pf C U = true then [(lS s b first (s 31) row * lS s b first (s 31) row, [s 31])] else [] from rfl]
    unfold compF
    rw [if_pos rfl, if_neg (show ¬ (0 < 0 ∧ s (32 + 3 * s 31 + 2) = 0) from fun q => absurd q.1 (by decide)), List.append_nil]
    by_cases ho : okL s b first (s 31) row pf C U = true
    · rw [if_pos ho, if_pos ho]
      simp
    · rw [if_neg ho, if_neg ho]
  | succ r =>
    rw [comp_s]
    have e2 : s 31 - ((r : Int) + 1) = e := by omega
    rw [e2]
    have e3 : compF s b e (row + (lH s b first e + s 79)) first (lC s b first e row C) (lU s b (lC s b first e row C) U pf first) = comp s b r e (row + (lH s b first e + s 79)) first (lC s b first e row C) (lU s b (lC s b first e row C) U pf first) := by
      unfold compF
      rw [if_neg (by omega), show (s 31 - 1 - e).toNat = r by omega]
    rw [e3]
    congr 1
    by_cases mk : s (32 + 3 * e + 2) = 0
    · rw [if_pos mk, if_pos ⟨by omega, mk⟩]
      rfl
    · rw [if_neg mk, if_neg (fun q => mk q.2)]
