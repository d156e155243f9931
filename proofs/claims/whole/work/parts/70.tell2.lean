/-! the words of the best layout are told, from the last line up -/
theorem pX4_chainFromBelow {d m : Nat} {Q : zMem → Prop} {μ : zMem} {s C : Int → Int} {b : Int} {es : List Int} (hw : wf s) (b0 : 1 ≤ b) (b1 : b ≤ 12) (d28 : (gD μ)[28]? = some (9, 14)) (hinc : inc (s 31) 0 es) (hm : m < es.length) (h24 : ∀ k : Nat, k ≤ es.length → gI μ 24 (k : Int) = lnS es 0 k)
    (h25 : ∀ i, 0 ≤ i → i < s 31 → gI μ 25 i = C i) (h26 : ∀ i, 0 ≤ i → i < s 31 → i ≠ lnF es 0 i → gI μ 26 i = C (i - 1) + wd s b (i - 1)) (bc : ∀ i, 0 ≤ i → i < s 31 → -1 ≤ C i ∧ C i ≤ 9000) (h28 : ∀ i, lnS es 0 (m + 1) ≤ i → i < s 31 → i ≠ lnF es 0 i → gI μ 28 i = FD s b C es 0 i)
    (hQ : ∀ μ', gD μ' = gD μ → gR μ' = gR μ → gL μ' = gL μ → (∀ j, j ≠ 28 → gI μ' j = gI μ j) → (∀ i, lnS es 0 m ≤ i → i < s 31 → i ≠ lnF es 0 i → gI μ' 28 i = FD s b C es 0 i) → Q μ') : kX4_chainFromBelow (d + 1) (m : Int) (es.length : Int) μ Q := by
  have hn := hw.2.2.1
  have len := inc_le es 0 hinc
  have e0 := h24 m (by omega)
  have e1 : gI μ 24 ((m : Int) + 1) = lnS es 0 (m + 1) := h24 (m + 1) (by omega)
  have e2 : m + 1 < es.length → gI μ 24 ((m : Int) + 2) = lnS es 0 (m + 2) := fun h => h24 (m + 2) (by omega)
  have bm := lnS_bd es 0 m hinc (by omega)
  have bm1 := lnS_bd es 0 (m + 1) hinc (by omega)
  have lt := lnS_lt es 0 m hinc hm
  refine bX4_chainFromBelow ⟨by omega, by omega, ⟨zi _, zi _, fun _ => trivial, fun _ => ⟨by omega, by omega⟩⟩, by omega, by omega, ?_⟩
  have ehi : (if (es.length : Int) ≤ (m : Int) + 1 then gI μ 24 ((m : Int) + 1) else gI μ 24 ((m : Int) + 2)) = (if m + 1 < es.length then lnS es 0 (m + 2) else lnS es 0 (m + 1)) := by
    by_cases g : m + 1 < es.length
    · rw [if_neg (by omega), if_pos g]
      exact e2 g
    · rw [if_pos (by omega), if_neg g]
      exact e1
  rw [ehi, e0, e1]
  have lnm : ∀ i, lnS es 0 m ≤ i → i < lnS es 0 (m + 1) → lnF es 0 i = lnS es 0 m ∧ lnE es 0 i = lnS es 0 (m + 1) ∧ lnN es 0 i = (if m + 1 < es.length then lnS es 0 (m + 2) else lnS es 0 (m + 1)) := fun i a c => by
    have := ln_S es 0 0 i m hinc hm a c
    exact ⟨this.1, this.2.1, this.2.2.2⟩
  have lnm1 : ∀ j, lnS es 0 (m + 1) < j → j < (if m + 1 < es.length then lnS es 0 (m + 2) else lnS es 0 (m + 1)) → j ≠ lnF es 0 j := fun j a c => by
    by_cases g : m + 1 < es.length
    · rw [if_pos g] at c
      have := (ln_S es 0 0 j (m + 1) hinc g (by omega) c).1
      omega
    · rw [if_neg g] at c
      omega
  have hib : lnS es 0 (m + 1) ≤ (if m + 1 < es.length then lnS es 0 (m + 2) else lnS es 0 (m + 1)) ∧ (if m + 1 < es.length then lnS es 0 (m + 2) else lnS es 0 (m + 1)) ≤ s 31 := by
    by_cases g : m + 1 < es.length
    · rw [if_pos g]
      have : lnS es 0 (m + 1) < lnS es 0 (m + 2) := lnS_lt es 0 (m + 1) hinc g
      have := lnS_bd es 0 (m + 2) hinc (by omega)
      omega
    · rw [if_neg g]
      omega
  generalize (if m + 1 < es.length then lnS es 0 (m + 2) else lnS es 0 (m + 1)) = hi at lnm lnm1 hib
  generalize hlo : lnS es 0 (m + 1) = lo at *
  generalize hst : lnS es 0 m = st at *
  have wdb := fun i a c => wd_bd (k := i) hw b0 b1 a c
  have loop : ∀ (t : Nat) (i : Int) (ζ : zMem), i + t = lo → st < i → gD ζ = gD μ → gR ζ = gR μ → gL ζ = gL μ → (∀ j, j ≠ 28 → gI ζ j = gI μ j) → (∀ j, lo ≤ j → gI ζ 28 j = gI μ 28 j) → (∀ j, st < j → j < i → gI ζ 28 j = FD s b C es 0 j) → zX4_chainFromBelow_40 d Q lo hi i ζ := by
    intro t
    induction t with
    | zero =>
      intro i ζ g0 g1 g2 g3 g4 g5 g6 g7
      refine bX4_chainFromBelow_40 ⟨zi _, zi _, fun _ => hQ ζ g2 g3 g4 g5 (fun j a c e => ?_), fun h => absurd (by omega) h⟩
      by_cases g : j < lo
      · have := (lnm j a g).1
        exact g7 j (by omega) (by omega)
      · rw [g6 j (by omega)]
        exact h28 j (by omega) c e
    | succ t ih =>
      intro i ζ g0 g1 g2 g3 g4 g5 g6 g7
      refine bX4_chainFromBelow_40 ⟨zi _, zi _, fun h => absurd h (by omega), fun _ => ?_⟩
      have li := lnm i (by omega) (by omega)
      have bi := bc i (by omega) (by omega)
      have bi1 := bc (i - 1) (by omega) (by omega)
      have di1 := wdb (i - 1) (by omega) (by omega)
      refine pX4_longest (s := s) (b := b) (C := C) (D := FD s b C es 0) (l := (es.length : Int)) (by rw [g2]; exact d28) (by omega) (by omega) (by omega) (by omega) (by omega) (by omega) (by omega) (by omega) (fun j a c => ?_) (by rw [g5 25 (by decide)]; exact h25 i (by omega) (by omega)) (by rw [g5 26 (by decide)]; exact h26 i (by omega) (by omega) (by omega)) (zi _) (zi _) ⟨by omega, by omega, ?_⟩
      · have bj := bc j (by omega) (by omega)
        have bj1 := bc (j - 1) (by omega) (by omega)
        have dj1 := wdb (j - 1) (by omega) (by omega)
        have fb := FD_bd (s := s) (b := b) (C := C) es 0 j hinc
        have ne := lnm1 j a c
        exact ⟨by rw [g5 25 (by decide)]; exact h25 j (by omega) (by omega), by rw [g5 26 (by decide)]; exact h26 j (by omega) (by omega) ne, by rw [g6 j (by omega)]; exact h28 j (by omega) (by omega) ne, fb.1, fb.2, zi _, zi _⟩
      · have fe := FD_eq (s := s) (b := b) (C := C) es 0 i hinc (by omega) (by omega)
        rw [li.2.1, li.2.2] at fe
        rw [← fe]
        refine ih (i + 1) _ (by omega) (by omega) g2 g3 g4 (fun j a => by rw [gI_sIn a]; exact g5 j a) (fun j a => by rw [gI_sIo (by omega)]; exact g6 j a) (fun j a c => ?_)
        by_cases e : j = i
        · rw [e, gI_sIs]
        · rw [gI_sIo e]
          exact g7 j a (by omega)
  exact loop (lo - (st + 1)).toNat (st + 1) μ (by omega) (by omega) rfl rfl rfl (fun _ _ => rfl) (fun _ _ => rfl) (fun j a c => by omega)
theorem PV_5 {s : Int → Int} {b : Int} {es : List Int} {i : Int} : PV s b es (i * 5) = FC s b es 0 (s 78) c0 i ∧ PV s b es (i * 5 + 1) = wd s b i ∧ PV s b es (i * 5 + 2) = sz s b i ∧ PV s b es (i * 5 + 3) = lnO es 0 i ∧ PV s b es (i * 5 + 4) = FW s b es i := by
  unfold PV
  refine ⟨?_, ?_, ?_, ?_, ?_⟩
  · rw [if_pos (by omega), show i * 5 / 5 = i by omega]
  · rw [if_neg (by omega), if_pos (by omega), show (i * 5 + 1) / 5 = i by omega]
  · rw [if_neg (by omega), if_neg (by omega), if_pos (by omega), show (i * 5 + 2) / 5 = i by omega]
  · rw [if_neg (by omega), if_neg (by omega), if_neg (by omega), if_pos (by omega), show (i * 5 + 3) / 5 = i by omega]
  · rw [if_neg (by omega), if_neg (by omega), if_neg (by omega), if_neg (by omega), show (i * 5 + 4) / 5 = i by omega]
theorem pX4_describeWords {d m q N : Nat} {Q : zMem → Prop} {μ : zMem} {s : Int → Int} {b : Int} {es : List Int} (hw : wf s) (hinc : inc (s 31) 0 es) (hm : m < es.length) (hq : 65 ≤ q) (d0 : (gD μ)[q]? = some (2, 0)) (d3 : (gD μ)[q + 3]? = some (9, N)) (hN : 5 * s 31 ≤ N) (hN' : N ≤ 1000) (hr : gR μ q 4 = some (q + 3)) (h24 : ∀ k : Nat, k ≤ es.length → gI μ 24 (k : Int) = lnS es 0 k)
    (h25 : ∀ i, 0 ≤ i → i < s 31 → gI μ 25 i = FC s b es 0 (s 78) c0 i) (h17 : ∀ i, 0 ≤ i → i < s 31 → gI μ 17 i = sz s b i ∧ gI μ 18 i = wd s b i) (h27 : ∀ i, 0 ≤ i → i < s 31 → i ≠ lnF es 0 i → gI μ 27 i = FU s b es 0 (s 78) 0 c0 c0 i) (h28 : ∀ i, lnS es 0 m ≤ i → i < s 31 → i ≠ lnF es 0 i → gI μ 28 i = FD s b (FC s b es 0 (s 78) c0) es 0 i)
    (hQ : ∀ μ', gD μ' = gD μ → gR μ' = gR μ → gL μ' = gL μ → (∀ j, j ≠ q + 3 → gI μ' j = gI μ j) → (∀ x, 5 * lnS es 0 (m + 1) ≤ x → gI μ' (q + 3) x = gI μ (q + 3) x) → (∀ x, 5 * lnS es 0 m ≤ x → x < 5 * lnS es 0 (m + 1) → gI μ' (q + 3) x = PV s b es x) → Q μ') : kX4_describeWords d q (m : Int) μ Q := by
  have hn := hw.2.2.1
  have len := inc_le es 0 hinc
  have e0 := h24 m (by omega)
  have e1 : gI μ 24 ((m : Int) + 1) = lnS es 0 (m + 1) := h24 (m + 1) (by omega)
  have bm := lnS_bd es 0 m hinc (by omega)
  have bm1 := lnS_bd es 0 (m + 1) hinc (by omega)
  have lt := lnS_lt es 0 m hinc hm
  have lnm : ∀ i, lnS es 0 m ≤ i → i < lnS es 0 (m + 1) → lnF es 0 i = lnS es 0 m ∧ lnO es 0 i = (m : Int) := fun i a c => by
    have := ln_S es 0 0 i m hinc hm a c
    exact ⟨this.1, by rw [this.2.2.1]; omega⟩
  generalize hlo : lnS es 0 (m + 1) = lo at *
  generalize hst : lnS es 0 m = st at *
  have n24 : (24 : Nat) ≠ q + 3 := by omega
  have n25 : (25 : Nat) ≠ q + 3 := by omega
  have n17 : (17 : Nat) ≠ q + 3 := by omega
  have n18 : (18 : Nat) ≠ q + 3 := by omega
  have n27 : (27 : Nat) ≠ q + 3 := by omega
  have n28 : (28 : Nat) ≠ q + 3 := by omega
  have loop : ∀ (t : Nat) (i : Int) (ζ : zMem), i + t = lo → st ≤ i → gD ζ = gD μ → gR ζ = gR μ → gL ζ = gL μ → (∀ j, j ≠ q + 3 → gI ζ j = gI μ j) → (∀ x, 5 * i ≤ x → gI ζ (q + 3) x = gI μ (q + 3) x) → (∀ x, 5 * st ≤ x → x < 5 * i → gI ζ (q + 3) x = PV s b es x) → zX4_describeWords_7 d Q q (m : Int) i ζ := by
    intro t
    induction t with
    | zero =>
      intro i ζ g0 g1 g2 g3 g4 g5 g6 g7
      have z1 : gI ζ 24 ((m : Int) + 1) = lo := by rw [g5 24 n24]; exact e1
      refine bX4_describeWords_7 ⟨by omega, by omega, zi _, by rw [z1]; exact zi _, fun _ => hQ ζ g2 g3 g4 g5 (fun x a => g6 x (by omega)) (fun x a c => g7 x a (by omega)), fun h => absurd (by rw [z1]; omega) h⟩
    | succ t ih =>
      intro i ζ g0 g1 g2 g3 g4 g5 g6 g7
      have z1 : gI ζ 24 ((m : Int) + 1) = lo := by rw [g5 24 n24]; exact e1
      have z0 : gI ζ 24 (m : Int) = st := by rw [g5 24 n24]; exact e0
      have z25 : gI ζ 25 i = FC s b es 0 (s 78) c0 i := by rw [g5 25 n25]; exact h25 i (by omega) (by omega)
      have z17 : gI ζ 17 i = sz s b i := by rw [g5 17 n17]; exact (h17 i (by omega) (by omega)).1
      have z18 : gI ζ 18 i = wd s b i := by rw [g5 18 n18]; exact (h17 i (by omega) (by omega)).2
      have li := lnm i g1 (by omega)
      have zW : (if i ≤ st then (0 : Int) else gI ζ 27 i + gI ζ 28 i - 1) = FW s b es i := by
        unfold FW
        rw [li.1]
        by_cases g : i = st
        · rw [if_pos (by omega), if_pos g]
        · rw [if_neg (by omega), if_neg g, g5 27 n27, g5 28 n28, h27 i (by omega) (by omega) (by omega), h28 i (by omega) (by omega) (by omega)]
      have za : ∀ c : Int, 0 ≤ c → c < 5 → zA ζ (q + 3) (i * 5 + c) := fun c c0 c1 => zA_of (by rw [g2]; exact d3) (by omega) (by omega) (by omega)
      have za0 : zA ζ (q + 3) (i * 5) := zA_of (by rw [g2]; exact d3) (by omega) (by omega) (by omega)
      refine bX4_describeWords_7 ?_
      simp only [gI_sIn n24, gI_sIn n18, gI_sIn n17, gI_sIn n27, gI_sIn n28]
      rw [z0, z1, z25, z17, z18, zW]
      refine ⟨by omega, by omega, zi _, zi _, fun h => absurd h (by omega), fun _ => ⟨by rw [g2]; exact d0, by rw [g3]; exact hr, by omega, by omega, za0, za 1 (by omega) (by omega), za 2 (by omega) (by omega), za 3 (by omega) (by omega), by omega, by omega, zi _, za 4 (by omega) (by omega), ?_⟩⟩
      obtain ⟨pv0, pv1, pv2, pv3, pv4⟩ := PV_5 (s := s) (b := b) (es := es) (i := i)
      refine ih (i + 1) _ (by omega) (by omega) g2 g3 g4 (fun j a => by rw [gI_sIn a, gI_sIn a, gI_sIn a, gI_sIn a, gI_sIn a]; exact g5 j a) (fun x a => by rw [gI_sIo (by omega), gI_sIo (by omega), gI_sIo (by omega), gI_sIo (by omega), gI_sIo (by omega)]; exact g6 x (by omega)) (fun x a c => ?_)
      by_cases h4 : x = i * 5 + 4
      · rw [h4, gI_sIs, pv4]
      by_cases h3 : x = i * 5 + 3
      · rw [h3, gI_sIo (by omega), gI_sIs, pv3]
        exact li.2.symm
      by_cases h2 : x = i * 5 + 2
      · rw [h2, gI_sIo (by omega), gI_sIo (by omega), gI_sIs, pv2]
      by_cases h1 : x = i * 5 + 1
      · rw [h1, gI_sIo (by omega), gI_sIo (by omega), gI_sIo (by omega), gI_sIs, pv1]
      by_cases h0 : x = i * 5
      · rw [h0, gI_sIo (by omega), gI_sIo (by omega), gI_sIo (by omega), gI_sIo (by omega), gI_sIs, pv0]
      rw [gI_sIo h4, gI_sIo h3, gI_sIo h2, gI_sIo h1, gI_sIo h0]
      exact g7 x a (by omega)
  refine bX4_describeWords ⟨by omega, by omega, ?_⟩
  rw [e0]
  exact loop (lo - st).toNat st μ (by omega) (Int.le_refl _) rfl rfl rfl (fun _ _ => rfl) (fun _ _ => rfl) (fun x a c => by omega)
theorem desc2 {d q N k n : Nat} {Q : Nat → zMem → Prop} {μ : zMem} {s : Int → Int} {b R lg : Int} {es : List Int} (hw : wf s) (b0 : 1 ≤ b) (b1 : b ≤ 12) (hq : 65 ≤ q) (hk : k ≤ 4) (hn178 : n ≤ 178) (hinc : inc (s 31) 0 es) (h16 : gI μ 11 16 = (es.length : Int)) (d28 : (gD μ)[28]? = some (9, 14)) (d0 : (gD μ)[q]? = some (2, 0)) (d1 : (gD μ)[q + 1]? = some (9, 5)) (d3 : (gD μ)[q + 3]? = some (9, N)) (hN : 5 * s 31 ≤ N) (hN' : N ≤ 1000) (hr2 : gR μ q 2 = some (q + 1)) (hr4 : gR μ q 4 = some (q + 3))
    (h24 : ∀ k : Nat, k ≤ es.length → gI μ 24 (k : Int) = lnS es 0 k) (h25 : ∀ i, 0 ≤ i → i < s 31 → gI μ 25 i = FC s b es 0 (s 78) c0 i) (h17 : ∀ i, 0 ≤ i → i < s 31 → gI μ 17 i = sz s b i ∧ gI μ 18 i = wd s b i) (h26 : ∀ i, 0 ≤ i → i < s 31 → i ≠ lnF es 0 i → gI μ 26 i = FC s b es 0 (s 78) c0 (i - 1) + wd s b (i - 1)) (h27 : ∀ i, 0 ≤ i → i < s 31 → i ≠ lnF es 0 i → gI μ 27 i = FU s b es 0 (s 78) 0 c0 c0 i) (bc : ∀ i, 0 ≤ i → i < s 31 → -1 ≤ FC s b es 0 (s 78) c0 i ∧ FC s b es 0 (s 78) c0 i ≤ 9000)
    (hQ : ∀ μ', gD μ' = gD μ → gR μ' = gR μ → gL μ' = gL μ → (∀ j, j ≠ 28 → j ≠ q + 1 → j ≠ q + 3 → gI μ' j = gI μ j) → (∀ x, 0 ≤ x → x < 5 * s 31 → gI μ' (q + 3) x = PV s b es x) → gI μ' (q + 1) 0 = b → gI μ' (q + 1) 1 = gI μ q 0 → gI μ' (q + 1) 2 = gI μ 11 17 → gI μ' (q + 1) 3 = lg → gI μ' (q + 1) 4 = R - gI μ 11 3 → Q q μ') :
    zX4_describeBest_114 (d + 2) Q b q R lg ((es.length : Int) - 1) μ k n := by
  have hn := hw.2.2.1
  have len := inc_le es 0 hinc
  have loop : ∀ (m : Nat) (ξ : zMem), m ≤ es.length → gD ξ = gD μ → gR ξ = gR μ → gL ξ = gL μ → (∀ j, j ≠ 28 → j ≠ q + 3 → gI ξ j = gI μ j) → (∀ i, lnS es 0 m ≤ i → i < s 31 → i ≠ lnF es 0 i → gI ξ 28 i = FD s b (FC s b es 0 (s 78) c0) es 0 i) → (∀ x, 5 * lnS es 0 m ≤ x → x < 5 * s 31 → gI ξ (q + 3) x = PV s b es x) → zX4_describeBest_114 (d + 2) Q b q R lg ((m : Int) - 1) ξ k n := by
    intro m
    induction m with
    | zero =>
      intro ξ hm g2 g3 g4 g5 g6 g7
      rw [lnS_0] at g7
      have za : ∀ c : Int, 0 ≤ c → c < 5 → zA ξ (q + 1) c := fun c c0 c1 => zA_of (by rw [g2]; exact d1) (by omega) (by omega) (by omega)
      refine bX4_describeBest_114 ⟨zi _, fun _ => ⟨by rw [g2]; exact d0, hk, hn178, ?_⟩, fun h => absurd (by omega) h⟩
      refine bX2_putTotals ⟨by rw [g2]; exact d0, by rw [g3]; exact hr2, za 0 (by omega) (by omega), za 1 (by omega) (by omega), za 2 (by omega) (by omega), za 3 (by omega) (by omega), za 4 (by omega) (by omega), ?_⟩
      refine hQ _ g2 g3 g4 (fun j a c e => by rw [gI_sIn c, gI_sIn c, gI_sIn c, gI_sIn c, gI_sIn c]; exact g5 j a e) (fun x a c => by rw [gI_sIn (by omega), gI_sIn (by omega), gI_sIn (by omega), gI_sIn (by omega), gI_sIn (by omega)]; exact g7 x (by omega) c) ?_ ?_ ?_ ?_ ?_
      · rw [gI_sIo (by decide), gI_sIo (by decide), gI_sIo (by decide), gI_sIo (by decide), gI_sIs]
      · rw [gI_sIo (by decide), gI_sIo (by decide), gI_sIo (by decide), gI_sIs, gI_sIn (by omega), g5 q (by omega) (by omega)]
      · rw [gI_sIo (by decide), gI_sIo (by decide), gI_sIs, g5 11 (by omega) (by omega)]
      · rw [gI_sIo (by decide), gI_sIs]
      · rw [gI_sIs, g5 11 (by omega) (by omega)]
    | succ m ih =>
      intro ξ hm g2 g3 g4 g5 g6 g7
      rw [show ((m + 1 : Nat) : Int) - 1 = (m : Int) by omega]
      refine bX4_describeBest_114 ⟨zi _, fun h => absurd h (by omega), fun _ => ⟨hk, hn178, ?_⟩⟩
      rw [g5 11 (by omega) (by omega), h16]
      refine pX4_chainFromBelow (C := FC s b es 0 (s 78) c0) (s := s) (b := b) hw b0 b1 (by rw [g2]; exact d28) hinc (by omega) (fun k hk' => by rw [g5 24 (by omega) (by omega)]; exact h24 k hk') (fun i a c => by rw [g5 25 (by omega) (by omega)]; exact h25 i a c) (fun i a c e => by rw [g5 26 (by omega) (by omega)]; exact h26 i a c e) bc g6 ?_
      intro χ c1 c2 c3 c4 c5
      have q5 : ∀ j, j ≠ 28 → j ≠ q + 3 → gI χ j = gI μ j := fun j a c => (c4 j a).trans (g5 j a c)
      refine pX4_describeWords (s := s) (b := b) (N := N) hw hinc (by omega) hq (by rw [c1, g2]; exact d0) (by rw [c1, g2]; exact d3) hN hN' (by rw [c2, g3]; exact hr4) (fun k hk' => by rw [q5 24 (by omega) (by omega)]; exact h24 k hk') (fun i a c => by rw [q5 25 (by omega) (by omega)]; exact h25 i a c) (fun i a c => by rw [q5 17 (by omega) (by omega), q5 18 (by omega) (by omega)]; exact h17 i a c) (fun i a c e => by rw [q5 27 (by omega) (by omega)]; exact h27 i a c e) c5 ?_
      intro κ w1 w2 w3 w4 w5 w6
      rw [show (m : Int) + -1 = (m : Int) - 1 by omega]
      refine ih κ (by omega) (w1.trans (c1.trans g2)) (w2.trans (c2.trans g3)) (w3.trans (c3.trans g4)) (fun j a c => (w4 j c).trans (q5 j a c)) (fun i a c e => by rw [w4 28 (by omega)]; exact c5 i a c e) (fun x a c => ?_)
      by_cases g : x < 5 * lnS es 0 (m + 1)
      · exact w6 x a g
      · rw [w5 x (by omega), c4 (q + 3) (by omega)]
        exact g7 x (by omega) c
  have le := lnS_end es 0 hinc
  refine loop es.length μ (Nat.le_refl _) rfl rfl rfl (fun _ _ _ => rfl) (fun i a c => ?_) (fun x a c => ?_)
  · rw [le] at a
    omega
  · rw [le] at a
    omega
