/-! the chains that end in a line -/
theorem mx_bd {s : Int → Int} {b : Int} {C U : Int → Int} {lo w l : Int} (l0 : 0 ≤ l) : ∀ j : Nat, (∀ i : Nat, i < j → U (lo + 1 + i) ≤ l) → 0 ≤ mx s b C U lo w j ∧ mx s b C U lo w j ≤ l
  | 0, _ => by simp [mx, l0]
  | j + 1, h => by
    have ih := mx_bd (s := s) (b := b) (C := C) (U := U) (lo := lo) (w := w) l0 j (fun i hi => h i (by omega))
    have h1 := h j (by omega)
    unfold mx
    split <;> omega
def mxG (lg x : Int) : Int := if lg < x then x else lg
def upV (s : Int → Int) (b : Int) (C U : Int → Int) (pf first w : Int) (t : Nat) : Int := if w = first then 0 else 1 + mx s b C U pf w (t - 1)
theorem Lg_bd {U : Int → Int} {first l : Int} (l0 : 0 ≤ l) : ∀ j : Nat, (∀ i : Nat, i < j → U (first + 1 + i) ≤ l) → 0 ≤ Lg U first j ∧ Lg U first j ≤ l
  | 0, _ => by simp [Lg, l0]
  | j + 1, h => by
    have ih := Lg_bd (U := U) (first := first) l0 j (fun i hi => h i (by omega))
    have h1 := h j (by omega)
    unfold Lg
    split <;> omega
theorem lU_bd {s : Int → Int} {b : Int} {C U : Int → Int} {pf first l k : Int} (l0 : 0 ≤ l) (p0 : 0 ≤ pf) (pf1 : pf ≤ first) (bu : ∀ i, 0 ≤ i → i < first → 0 ≤ U i ∧ U i ≤ l) : ∀ i, 0 ≤ i → i < k → 0 ≤ lU s b C U pf first i ∧ lU s b C U pf first i ≤ l + 1 := by
  intro i i0 _
  unfold lU
  by_cases h : first < i
  · rw [if_pos h]
    have := mx_bd (s := s) (b := b) (C := C) (U := U) (lo := pf) (w := i) l0 (first - pf - 1).toNat (fun j hj => (bu _ (by omega) (by omega)).2)
    omega
  · rw [if_neg h]
    by_cases h2 : i = first
    · rw [if_pos h2]
      omega
    · rw [if_neg h2]
      have := bu i i0 (by omega)
      omega
theorem pX8_chainsUp {d : Nat} {Q : zMem → Prop} {μ : zMem} {s C U V O : Int → Int} {b l first k pf lg : Int} (hw : wf s) (b0 : 1 ≤ b) (b1 : b ≤ 12) (l0 : 0 ≤ l) (l1 : l ≤ first) (fk : first < k) (k1 : k ≤ s 31)
    (e7 : gI μ 54 7 = l) (e10 : gI μ 54 10 = lg) (g0 : 0 ≤ lg ∧ lg ≤ 100) (eV : ∀ i, 0 ≤ i → i < 7 * l + 7 → gI μ 59 i = V i) (vf : V (7 * l) = first) (p0 : 0 ≤ pf) (pf1 : pf ≤ first) (vp : 0 < l → V (7 * (l - 1)) = pf ∧ pf < first) (v0 : l = 0 → pf = first)
    (hp : plc s b C O 0 k μ) (ho : ∀ i, first ≤ i → i < k → O i = l) (ho' : ∀ i, pf ≤ i → i < first → O i = l - 1) (hu : ∀ i, 0 ≤ i → i < first → gI μ 61 i = U i) (bu : ∀ i, 0 ≤ i → i < first → 0 ≤ U i ∧ U i ≤ l) (bc : ∀ i, 0 ≤ i → i < k → -1 ≤ C i ∧ C i ≤ 9000)
    (hQ : ∀ μ', frl μ μ' → (∀ q, q ≠ 61 → q ≠ 54 → gI μ' q = gI μ q) → (∀ i, i ≠ 10 → gI μ' 54 i = gI μ 54 i) → gI μ' 54 10 = mxG lg (Lg (lU s b C U pf first) first (k - first - 1).toNat) → (∀ i, 0 ≤ i → i < k → gI μ' 61 i = lU s b C U pf first i) → Q μ') : kX8_chainsUp (d + 2) first k μ Q := by
  have hn := hw.2.2.1
  have hl14 : l < 14 := by omega
  refine bX8_chainsUp ?_
  rw [e7]
  refine ⟨⟨zi _, fun _ => trivial, fun _ => by omega⟩, ?_⟩
  have hbef : (if l = 0 then first else gI μ 59 (7 * (l - 1))) = pf := by
    by_cases h : l = 0
    · rw [if_pos h, v0 h]
    · rw [if_neg h, eV _ (by omega) (by omega)]
      exact (vp (by omega)).1
  rw [hbef]
  have wdb : ∀ i, 0 ≤ i → i < k → 1 ≤ wd s b i ∧ wd s b i ≤ 240 := fun i a c => wd_bd hw b0 b1 a (by omega)
  have outer : ∀ (m : Nat) (w : Int) (ξ : zMem), w + m = k → first ≤ w → frl μ ξ → (∀ q, q ≠ 61 → q ≠ 54 → gI ξ q = gI μ q) → (∀ i, i ≠ 10 → gI ξ 54 i = gI μ 54 i) → gI ξ 54 10 = mxG lg (Lg (lU s b C U pf first) first (w - first - 1).toNat) → (∀ i, 0 ≤ i → i < first → gI ξ 61 i = U i) → (∀ i, first ≤ i → i < w → gI ξ 61 i = lU s b C U pf first i) → zX8_chainsUp_29 (d + 1) Q first k pf w ξ := by
    intro m
    induction m with
    | zero =>
      intro w ξ hm hw1 h1 h2 h3 h4 h5 h6
      refine bX8_chainsUp_29 ⟨zi _, zi _, fun _ => ?_, fun h => absurd (by omega) h⟩
      have : w = k := by omega
      subst this
      exact hQ ξ h1 h2 h3 h4 (fun i a c => by
        by_cases hi : i < first
        · rw [h5 i a hi]
          unfold lU
          rw [if_neg (by omega), if_neg (by omega)]
        · exact h6 i (by omega) c)
    | succ m ih =>
      intro w ξ hm hw1 h1 h2 h3 h4 h5 h6
      refine bX8_chainsUp_29 ⟨zi _, zi _, fun h => absurd h (by omega), fun _ => ?_⟩
      have p60 : gI ξ 60 = gI μ 60 := h2 60 (by decide) (by decide)
      have p59 : gI ξ 59 = gI μ 59 := h2 59 (by decide) (by decide)
      have w3 := (hp w (by omega) (by omega)).2.2.2
      rw [ho w (by omega) (by omega)] at w3
      refine pX8_hasGap (lo := l) (fo := first) (by omega) (by omega) (by rw [p60]; exact w3) (by omega) (by omega) (by rw [p59, eV _ (by omega) (by omega)]; exact vf) (by omega) (by omega) ⟨b2_in _, by omega, by omega, ?_⟩
      rw [b2_ite]
      have e0 : b2 (w ≠ first) = upV s b C U pf first w 0 := by
        unfold upV b2
        by_cases h : w = first
        · rw [if_pos h, if_neg (fun q => q h)]
        · rw [if_neg h, if_pos h]
          rfl
      rw [e0]
      have fin : ∀ ζ : zMem, frl μ ζ → (∀ q, q ≠ 61 → q ≠ 54 → gI ζ q = gI μ q) → (∀ i, i ≠ 10 → gI ζ 54 i = gI μ 54 i) → gI ζ 54 10 = mxG lg (Lg (lU s b C U pf first) first (w - first - 1).toNat) → (∀ i, 0 ≤ i → i < first → gI ζ 61 i = U i) → (∀ i, first ≤ i → i < w → gI ζ 61 i = lU s b C U pf first i) → gI ζ 61 w = lU s b C U pf first w →
          ((0 ≤ w) ∧ ((w < 14) ∧ (((zIn (gI ζ 61 w)) ∧ ((zIn (gI ζ 54 10)))) ∧ (zX8_chainsUp_29 (d + 1) Q first k pf (w + 1) (sI ζ 54 10 (if (gI ζ 61 w) ≤ (gI ζ 54 10) then (gI ζ 54 10) else (gI ζ 61 w))))))) := by
        intro ζ i1 i2 i3 i4 i5 i6 i7
        have u1 := lU_bd (s := s) (b := b) (C := C) (U := U) (k := k) l0 p0 pf1 bu w (by omega) (by omega)
        have u2 := Lg_bd (U := lU s b C U pf first) (first := first) (l := l + 1) (by omega) (w - first - 1).toNat (fun i hi => (lU_bd (s := s) (b := b) (C := C) (U := U) (k := k) l0 p0 pf1 bu (first + 1 + i) (by omega) (by omega)).2)
        rw [i7, i4]
        refine ⟨by omega, by omega, ⟨zi _, zi _ (by unfold mxG; split <;> omega)⟩, ?_⟩
        refine ih (w + 1) _ (by omega) (by omega) (i1.sI (by omega)) (fun q a c => by rw [gI_sIn c]; exact i2 q a c) (fun i hi => by rw [gI_sIo hi]; exact i3 i hi) ?_ (fun i a c => by rw [gI_sIn (by decide)]; exact i5 i a c) (fun i a c => by
          rw [gI_sIn (by decide)]
          by_cases e : i = w
          · rw [e]
            exact i7
          · exact i6 i a (by omega))
        rw [gI_sIs]
        by_cases e : w = first
        · have z1 : lU s b C U pf first w = 0 := by
            unfold lU
            rw [if_neg (by omega), if_pos e]
          have z2 : (w - first - 1).toNat = 0 := by omega
          have z3 : (w + 1 - first - 1).toNat = 0 := by omega
          rw [z1, z2, z3]
          show (if 0 ≤ mxG lg 0 then mxG lg 0 else 0) = mxG lg 0
          unfold mxG
          split <;> split <;> omega
        · have z3 : (w + 1 - first - 1).toNat = (w - first - 1).toNat + 1 := by omega
          rw [z3]
          have z4 : first + 1 + ((w - first - 1).toNat : Int) = w := by omega
          rw [show Lg (lU s b C U pf first) first ((w - first - 1).toNat + 1) = if Lg (lU s b C U pf first) first (w - first - 1).toNat < lU s b C U pf first (first + 1 + ((w - first - 1).toNat : Int)) then lU s b C U pf first (first + 1 + ((w - first - 1).toNat : Int)) else Lg (lU s b C U pf first) first (w - first - 1).toNat from rfl, z4]
          unfold mxG
          split <;> split <;> split <;> (try split) <;> omega
      have inner : ∀ (n t : Nat) (ζ : zMem), pf + t + n = first → frl μ ζ → (∀ q, q ≠ 61 → q ≠ 54 → gI ζ q = gI μ q) → (∀ i, i ≠ 10 → gI ζ 54 i = gI μ 54 i) → gI ζ 54 10 = mxG lg (Lg (lU s b C U pf first) first (w - first - 1).toNat) → (∀ i, 0 ≤ i → i < first → gI ζ 61 i = U i) → (∀ i, first ≤ i → i < w → gI ζ 61 i = lU s b C U pf first i) → gI ζ 61 w = upV s b C U pf first w t → zX8_chainsUp_59 (d + 1) Q first k pf w (pf + t) ζ := by
        intro n
        induction n with
        | zero =>
          intro t ζ hn' i1 i2 i3 i4 i5 i6 i7
          refine bX8_chainsUp_59 ⟨zi _, zi _, fun _ => ?_, fun h => absurd (by omega) h⟩
          refine fin ζ i1 i2 i3 i4 i5 i6 ?_
          rw [i7]
          unfold upV lU
          by_cases e : w = first
          · rw [if_pos e, if_neg (by omega), if_pos e]
          · rw [if_neg e, if_pos (by omega)]
            congr 2
            omega
        | succ n ihn =>
          intro t ζ hn' i1 i2 i3 i4 i5 i6 i7
          have q60 : gI ζ 60 = gI μ 60 := i2 60 (by decide) (by decide)
          have q59 : gI ζ 59 = gI μ 59 := i2 59 (by decide) (by decide)
          have lp : 0 < l := by
            rcases Int.lt_or_eq_of_le l0 with h | h
            · exact h
            · have := v0 h.symm
              omega
          have vpf := vp lp
          refine bX8_chainsUp_59 ⟨zi _, zi _, fun h => absurd h (by omega), fun _ => ?_⟩
          refine pX8_hasGap (lo := l) (fo := first) (by omega) (by omega) (by rw [q60]; exact w3) (by omega) (by omega) (by rw [q59, eV _ (by omega) (by omega)]; exact vf) (by omega) (by omega) ⟨b2_in _, fun h => ?_, fun h => ?_⟩
          · rw [b2_0, Classical.not_not] at h
            refine fin ζ i1 i2 i3 i4 i5 i6 ?_
            rw [i7]
            unfold upV lU
            rw [if_pos h, if_neg (by omega), if_pos h]
          · rw [b2_0, Classical.not_not] at h
            have pi := hp (pf + t) (by omega) (by omega)
            have pw := hp w (by omega) (by omega)
            have pi1 : pf + (t : Int) ≠ pf → _ := fun (_ : pf + (t : Int) ≠ pf) => hp (pf + t - 1) (by omega) (by omega)
            have pw1 := hp (w - 1) (by omega) (by omega)
            have bi := bc (pf + t) (by omega) (by omega)
            have bw := bc w (by omega) (by omega)
            have bw1 := bc (w - 1) (by omega) (by omega)
            have dw1 := wdb (w - 1) (by omega) (by omega)
            refine pX8_touch (la := l - 1) (lc := l) (fa := pf) (fc := first) (Ca := C (pf + t)) (Cc := C w) (Ga := C (pf + t - 1) + wd s b (pf + t - 1)) (Gc := C (w - 1) + wd s b (w - 1)) (by omega) (by omega) (by omega) (by omega)
              (by rw [q60, pi.2.2.2]; exact ho' _ (by omega) (by omega)) (by omega) (by omega) (by rw [q59, eV _ (by omega) (by omega)]; exact vpf.1) (by omega) (by omega) (by omega)
              (by rw [q60]; exact w3) (by omega) (by omega) (by rw [q59, eV _ (by omega) (by omega)]; exact vf) (by omega) (by omega) (by omega)
              (by rw [q60]; exact pi.1) (by rw [q60]; exact pw.1) (fun hne => ⟨_, _, by rw [q60]; exact (pi1 hne).1, by rw [q60]; exact (pi1 hne).2.1, rfl⟩) (fun _ => ⟨_, _, by rw [q60]; exact pw1.1, by rw [q60]; exact pw1.2.1, rfl⟩)
              (zi _) (zi _) (fun hne => ?_) (fun _ => zi _) ?_
            · have bi1 := bc (pf + t - 1) (by omega) (by omega)
              have di1 := wdb (pf + t - 1) (by omega) (by omega)
              exact zi _
            have ui := i5 (pf + t) (by omega) (by omega)
            have bui := bu (pf + t) (by omega) (by omega)
            have mb := mx_bd (s := s) (b := b) (C := C) (U := U) (lo := pf) (w := w) l0 (t - 1) (fun j hj => (bu _ (by omega) (by omega)).2)
            have ew : gI ζ 61 w = 1 + mx s b C U pf w (t - 1) := by
              rw [i7]
              unfold upV
              rw [if_neg h]
            refine ⟨⟨b2_in _, fun _ => by omega, fun _ => ⟨by omega, by omega, by omega, by omega, ?_, ?_⟩⟩, by omega, by omega, ?_⟩
            · rw [ui]; exact zi _
            · rw [ew]; exact zi _
            rw [show pf + (t : Int) + 1 = pf + ((t + 1 : Nat) : Int) by omega]
            refine ihn (t + 1) _ (by omega) (i1.sI (by omega)) (fun q a c => by rw [gI_sIn a]; exact i2 q a c) (fun i hi => by rw [gI_sIn (by decide)]; exact i3 i hi) (by rw [gI_sIn (by decide)]; exact i4) (fun i a c => by rw [gI_sIo (by omega)]; exact i5 i a c) (fun i a c => by rw [gI_sIo (by omega)]; exact i6 i a c) ?_
            rw [gI_sIs, ui, ew]
            unfold upV
            rw [if_neg h]
            by_cases t0 : t = 0
            · subst t0
              have : b2 (pf + ((0 : Nat) : Int) ≠ pf ∧ w ≠ first ∧ C (pf + ((0 : Nat) : Int) - 1) + wd s b (pf + ((0 : Nat) : Int) - 1) < C w ∧ C (w - 1) + wd s b (w - 1) < C (pf + ((0 : Nat) : Int))) = 0 := by
                rw [b2_0]
                intro q
                exact q.1 (by omega)
              rw [if_pos this]
            · obtain ⟨j, rfl⟩ : ∃ j, t = j + 1 := ⟨t - 1, by omega⟩
              have z1 : pf + ((j + 1 : Nat) : Int) - 1 = pf + j := by omega
              have z2 : pf + ((j + 1 : Nat) : Int) = pf + 1 + j := by omega
              rw [z1, z2, show j + 1 - 1 = j from rfl, show j + 1 + 1 - 1 = j + 1 from rfl]
              rw [show mx s b C U pf w (j + 1) = if C (pf + j) + wd s b (pf + j) < C w ∧ C (w - 1) + wd s b (w - 1) < C (pf + 1 + j) ∧ mx s b C U pf w j < U (pf + 1 + j) then U (pf + 1 + j) else mx s b C U pf w j from rfl]
              by_cases tt : C (pf + j) + wd s b (pf + j) < C w ∧ C (w - 1) + wd s b (w - 1) < C (pf + 1 + j)
              · have : b2 (pf + 1 + (j : Int) ≠ pf ∧ w ≠ first ∧ C (pf + (j : Int)) + wd s b (pf + (j : Int)) < C w ∧ C (w - 1) + wd s b (w - 1) < C (pf + 1 + (j : Int))) = 1 := by
                  rw [b2_1]
                  exact ⟨by omega, h, tt.1, tt.2⟩
                rw [this, if_neg (by decide)]
                simp only [tt.1, tt.2, true_and]
                split <;> split <;> omega
              · have : b2 (pf + 1 + (j : Int) ≠ pf ∧ w ≠ first ∧ C (pf + (j : Int)) + wd s b (pf + (j : Int)) < C w ∧ C (w - 1) + wd s b (w - 1) < C (pf + 1 + (j : Int))) = 0 := by
                  rw [b2_0]
                  exact fun q => tt ⟨q.2.2.1, q.2.2.2⟩
                have nt : ¬ (C (pf + j) + wd s b (pf + j) < C w ∧ C (w - 1) + wd s b (w - 1) < C (pf + 1 + j) ∧ mx s b C U pf w j < U (pf + 1 + j)) := fun q => tt ⟨q.1, q.2.1⟩
                rw [if_pos this, if_neg nt]
      have h0 := inner (first - pf).toNat 0 (sI ξ 61 w (upV s b C U pf first w 0)) (by omega) (h1.sI (by omega)) (fun q a c => by rw [gI_sIn a]; exact h2 q a c) (fun i hi => by rw [gI_sIn (by decide)]; exact h3 i hi) (by rw [gI_sIn (by decide)]; exact h4) (fun i a c => by rw [gI_sIo (by omega)]; exact h5 i a c) (fun i a c => by rw [gI_sIo (by omega)]; exact h6 i a c) gI_sIs
      rw [show pf + ((0 : Nat) : Int) = pf by omega] at h0
      exact h0
  refine outer (k - first).toNat first μ (by omega) (Int.le_refl _) frl.rf (fun _ _ _ => rfl) (fun _ _ => rfl) ?_ hu (fun i a c => by omega)
  rw [show (first - first - 1).toNat = 0 by omega, e10]
  show lg = mxG lg 0
  unfold mxG
  rw [if_neg (by omega)]
