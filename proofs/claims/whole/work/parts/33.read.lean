/-! the model's reader -/
def MT (μ ξ : zMem) (i n : Int) (W : Int → Int) : Prop := mtx μ ξ ∧ gI ξ 54 16 = i ∧ gI ξ 54 18 = n ∧ ∀ x, 0 ≤ x → x < 3 * n → gI ξ 64 x = W x
theorem MT.at {μ ξ : zMem} {i j n : Int} {W : Int → Int} (h : MT μ ξ i n W) : MT μ (sI ξ 54 16 j) j n W := ⟨h.1.at, gI_sIs, by rw [gI_sIo (by decide)]; exact h.2.2.1, fun x a b => by rw [gI_sIn (by decide)]; exact h.2.2.2 x a b⟩
/-- a word has been read: what follows it -/
theorem read123 {d : Nat} {Q : Int → zMem → Prop} {μ ζ : zMem} {len i' n L w q x2 mv : Int} {t W1 : Int → Int} {R : Int × Int × Int × (Int → Int)} (hT : TXT μ len t) (hx2 : zIn x2) (hmv : (if x2 = 0 then (0 : Int) else 1) = mv) (n0 : 0 ≤ n) (n1 : n < 14)
    (hQ0 : R.1 ≠ -1 → ∀ μ', msc μ μ' → gI μ' 54 16 = R.1 → Q 0 μ')
    (ih : ∀ (i n p : Int) (W : Int → Int) (x2 x3 : Int) (ξ : zMem), i' ≤ i → i ≤ len → MT μ ξ i n W → TI n p W → x3 = b2 (i < len) → (i < len → (p = 0 ∨ p = 3 ∨ p = 4) ∧ t i ≠ 32 ∧ (p = 3 → t i ≠ 47) ∧ x2 = b2 (p = 4)) → (i = len → p ≠ 4) → trun t (len - i).toNat i n p W = R → zX8_readsText_34 (d + 2) Q x2 x3 ξ)
    (hi0 : 0 ≤ i') (hi1 : i' ≤ len) (hmz : MT μ ζ i' n W1) (e1 : W1 (3 * n) = L) (e2 : W1 (3 * n + 1) = w) (e3 : W1 (3 * n + 2) = mv) (hq : q = 1 ∨ q = 2) (hlet : i' < len → isLet (t i') = true → q = 1 → 12 ≤ L) (h33 : i' < len → t i' = 33 → 3 ≤ w) (hti1 : TI (n + 1) q W1) (hR1 : trun t (len - i').toNat i' (n + 1) q W1 = R) : zX8_readsText_123 (d + 2) Q x2 L w ζ := by
  have hl1 := hT.2.2.1
  refine bX8_readsText_123 ?_
  simp only [gI_sIn (show (54 : Nat) ≠ 64 by decide)]
  rw [hmz.2.2.1, hmv]
  clear hmv
  refine ⟨by omega, by omega, by omega, by omega, hx2, by omega, by omega, ?_⟩
  generalize hψ : sI (sI (sI (sI ζ 64 (3 * n) L) 64 (3 * n + 1) w) 64 (3 * n + 2) mv) 54 18 (n + 1) = ψ
  have mψ : MT μ ψ i' (n + 1) W1 := by
    rw [← hψ]
    refine ⟨hmz.1.wr.wr.wr.rd, by rw [gI_sIo (by decide), gI_sIn (by decide), gI_sIn (by decide), gI_sIn (by decide)]; exact hmz.2.1, gI_sIs, fun x a c => ?_⟩
    rw [gI_sIn (by decide)]
    by_cases c2 : x = 3 * n + 2
    · rw [c2, gI_sIs, e3]
    by_cases c1 : x = 3 * n + 1
    · rw [c1, gI_sIo (by omega), gI_sIs, e2]
    by_cases c0' : x = 3 * n
    · rw [c0', gI_sIo (by omega), gI_sIo (by omega), gI_sIs, e1]
    rw [gI_sIo c2, gI_sIo c1, gI_sIo c0']
    exact hmz.2.2.2 x a (by omega)
  refine pX8_blanks (mψ.1.tx hT) mψ.2.1 hi0 hi1 ?_
  intro m mb1 mb2 mb3
  have m2 : MT μ (sI ψ 54 16 (i' + m)) (i' + m) (n + 1) W1 := mψ.at
  have hR2 := (trun_blanks (n := n + 1) (W := W1) m i' q mb1 mb2).symm.trans hR1
  have hpq : (if m = 0 then q else pB q) = (if m = 0 then q else 3) := by
    unfold pB
    rw [if_pos hq]
  rw [hpq] at hR2
  clear hpq
  obtain ⟨q2, hq2⟩ : ∃ q2, (if m = 0 then q else (3 : Int)) = q2 := ⟨_, rfl⟩
  rw [hq2] at hR2
  have q2c : (m = 0 ∧ q2 = q) ∨ (m ≠ 0 ∧ q2 = 3) := by
    rw [← hq2]
    by_cases h : m = 0
    · rw [if_pos h]
      exact Or.inl ⟨h, rfl⟩
    · rw [if_neg h]
      exact Or.inr ⟨h, rfl⟩
  clear hq2
  have q2n : (q2 ≠ 0 ∧ q2 ≠ 4) ∧ 0 ≤ q2 ∧ q2 ≤ 4 := by omega
  have hti2 : TI (n + 1) q2 W1 := ⟨hti1.1, q2n.2, fun _ => by omega, hti1.2.2.2⟩
  have z0 : 0 ≤ i' + (m : Int) := by omega
  have zlen := hT.2.1
  refine pX8_isSign (m2.1.tx hT) m2.2.1 z0 mb1 (zi _ (by decide)) ⟨b2_in _, ?_⟩
  by_cases hs : i' + (m : Int) < len ∧ t (i' + m) = 47
  · have z1 : 0 ≤ i' + (m : Int) + 1 := by omega
    have z2 : i' + (m : Int) + 1 ≤ len := by omega
    have z3 : i' ≤ i' + (m : Int) + 1 := by omega
    rw [b2_1.mpr hs, if_neg (by decide)]
    rw [m2.2.1, sI_sI]
    have m3 : MT μ (sI ψ 54 16 (i' + m + 1)) (i' + m + 1) (n + 1) W1 := mψ.at
    have hR3 := (trun_some (t := t) (W := W1) (n := n + 1) (p := q2) (n' := n + 1) (p' := 4) (W' := W1) hs.1 (by
      rw [hs.2]
      unfold tstep
      rw [if_neg (by decide), if_neg (by decide), if_pos rfl, if_pos q2n.1])).symm.trans hR2
    clear hlet h33 e1 e2 e3 mb2 mb3 hq q2c q2n hs hR1 hR2 hti2
    refine pX8_blanks (m3.1.tx hT) m3.2.1 z1 z2 ?_
    intro m' c1 c2 c3
    rw [sI_sI]
    have m4 : MT μ (sI ψ 54 16 (i' + m + 1 + m')) (i' + m + 1 + m') (n + 1) W1 := mψ.at
    have hR4 := (trun_blanks (n := n + 1) (W := W1) m' (i' + m + 1) 4 c1 c2).symm.trans hR3
    have h4 : (if m' = 0 then (4 : Int) else pB 4) = 4 := by split <;> decide
    rw [h4] at hR4
    clear h4 c2 hR3
    have y0 : 0 ≤ i' + (m : Int) + 1 + m' := by omega
    have y1 : i' ≤ i' + (m : Int) + 1 + m' := by omega
    refine ⟨zi _, fun h => absurd h (by decide), fun _ => ?_⟩
    rw [m4.2.1, (m4.1.tx hT).1]
    refine ⟨zi _, zi _, fun he => ?_, fun he => ?_⟩
    · have := trun_end (t := t) (n := n + 1) (p := 4) (W := W1) (Int.le_of_eq he.symm)
      rw [hR4, if_pos rfl] at this
      exact hQ0 (by rw [this]; show i' + (m : Int) + 1 + m' ≠ -1; intro z; rw [z] at y0; exact absurd y0 (by decide)) _ m4.1.msc (by rw [this]; exact m4.2.1)
    · have hlt : i' + (m : Int) + 1 + m' < len := by omega
      have nle : ¬ len ≤ i' + (m : Int) + 1 + m' := by omega
      have hti4 : TI (n + 1) 4 W1 := ⟨hti1.1, by decide, fun q => absurd q (by decide), hti1.2.2.2⟩
      have nextH : zX8_readsText_34 (d + 2) Q 1 (if len ≤ i' + (m : Int) + 1 + m' then (0 : Int) else 1) (sI ψ 54 16 (i' + m + 1 + m')) := by
        refine ih _ (n + 1) 4 W1 1 _ _ y1 c1 m4 hti4 (by rw [if_neg nle, b2_1.mpr hlt]) (fun q => ⟨Or.inr (Or.inr rfl), c3 q, fun z => absurd z (by decide), (b2_1.mpr rfl).symm⟩) (fun q => absurd q (Int.ne_of_lt hlt)) hR4
      exact ⟨fun _ => nextH, fun _ => ⟨b2_in _, fun _ => ⟨fun z => absurd z (by decide), fun _ => nextH⟩, fun _ => nextH⟩⟩
  · rw [b2_0.mpr hs, if_pos rfl, Int.add_zero]
    rw [m2.2.1, sI_sI]
    refine pX8_blanks (m2.1.tx hT) m2.2.1 z0 mb1 ?_
    intro m' c1 c2 c3
    have hm0 : m' = 0 := by
      by_cases h : m' = 0
      · exact h
      · exact absurd (c2 (i' + m) (Int.le_refl _) (by omega)) (mb3 (by omega))
    subst hm0
    clear c1 c2 c3
    rw [show i' + (m : Int) + ((0 : Nat) : Int) = i' + m from Int.add_zero _, sI_sI]
    have y1 : i' ≤ i' + (m : Int) := by omega
    refine ⟨zi _, fun _ => ?_, fun h => absurd rfl h⟩
    rw [m2.2.1, (m2.1.tx hT).1]
    have ex : (if len ≤ i' + (m : Int) then (0 : Int) else 1) = b2 (i' + (m : Int) < len) := by
      unfold b2
      by_cases g : i' + (m : Int) < len
      · rw [if_neg (Int.not_le.mpr g), if_pos g]
      · rw [if_pos (Int.not_lt.mp g), if_neg g]
    rw [ex]
    clear ex
    have nextH : (i' + (m : Int) < len → q2 = 3) → zX8_readsText_34 (d + 2) Q 0 (b2 (i' + (m : Int) < len)) (sI ψ 54 16 (i' + m)) := by
      intro h3
      refine ih _ (n + 1) q2 W1 0 _ _ y1 mb1 m2 hti2 rfl (fun z => ⟨Or.inr (Or.inl (h3 z)), mb3 z, fun _ z' => hs ⟨z, z'⟩, ?_⟩) (fun _ => q2n.1.2) hR2
      rw [h3 z]
      rfl
    refine ⟨⟨zi _, zi _⟩, fun hz => nextH (fun z => absurd z (b2_0.mp hz)), fun hz => ⟨b2_in _, fun h11 => ⟨fun _ => ?_, fun z => absurd rfl z⟩, fun h11 => nextH (fun _ => ?_)⟩⟩
    · rw [b2_0, Classical.not_not] at hz
      rw [b2_0] at h11
      have hm0 : m = 0 := by omega
      have hqq : q2 = q := by
        rcases q2c with h | h
        · exact h.2
        · exact absurd hm0 h.1
      have hs' : tstep (n + 1) q2 W1 (t (i' + m)) = none := by
        subst hm0
        rw [show i' + ((0 : Nat) : Int) = i' from Int.add_zero _] at hz hs mb3 ⊢
        rw [hqq]
        unfold tstep
        rw [show n + 1 - 1 = n by omega, e1, e2]
        by_cases hl' : isLet (t i') = true
        · rw [if_pos hl']
          rcases hq with hq | hq
          · rw [if_pos hq, if_pos (hlet hz hl' hq)]
          · rw [if_neg (by rw [hq]; decide), if_pos hq]
        · rw [if_neg hl']
          by_cases c33 : t i' = 33
          · rw [if_pos c33, if_pos hq, if_pos (h33 hz c33)]
          · rw [if_neg c33, if_neg (fun z => hs ⟨hz, z⟩), if_neg (mb3 hz)]
      have := trun_none hz hs'
      rw [hR2] at this
      exact hQ0 (by rw [this]; show i' + (m : Int) ≠ -1; intro z; rw [z] at z0; exact absurd z0 (by decide)) _ m2.1.msc (by rw [this]; exact m2.2.1)
    · rw [b2_0, Classical.not_not] at h11
      rcases q2c with h | h
      · exact absurd h.1 (by omega)
      · exact h.2
theorem pX8_readsText {d : Nat} {Q : Int → zMem → Prop} {μ : zMem} {len : Int} {t : Int → Int} {R : Int × Int × Int × (Int → Int)} (hT : TXT μ len t) (hR0 : trun t (len - 0).toNat 0 0 0 c0 = R)
    (hQ0 : R.1 ≠ -1 → ∀ μ', msc μ μ' → gI μ' 54 16 = R.1 → Q 0 μ') (hQ1 : R.1 = -1 → ∀ μ', msc μ μ' → gI μ' 54 18 = R.2.1 → (∀ x, 0 ≤ x → x < 3 * R.2.1 → gI μ' 64 x = R.2.2.2 x) → Q 1 μ') : kX8_readsText (d + 3) μ Q := by
  have hl0 := hT.2.1
  have hl1 := hT.2.2.1
  have head : ∀ (f : Nat) (i n p : Int) (W : Int → Int) (x2 x3 : Int) (ξ : zMem), (len - i).toNat = f → 0 ≤ i → i ≤ len → MT μ ξ i n W → TI n p W → x3 = b2 (i < len) → (i < len → (p = 0 ∨ p = 3 ∨ p = 4) ∧ t i ≠ 32 ∧ (p = 3 → t i ≠ 47) ∧ x2 = b2 (p = 4)) → (i = len → p ≠ 4) → trun t (len - i).toNat i n p W = R → zX8_readsText_34 (d + 2) Q x2 x3 ξ := by
    intro f
    induction f using Nat.strongRecOn with
    | ind f ih =>
      intro i n p W x2 x3 ξ hf i0 i1 hm hti hx3 hlt hend hR
      have ltf : ∀ i'' : Int, i < i'' → i'' ≤ len → (len - i'').toNat < f := fun i'' a b => by
        clear ih hlt hend hR hx3 hti hm
        omega
      have tx := hm.1.tx hT
      have stop : i < len → tstep n p W (t i) = none → Q 0 ξ := fun hi hs => by
        have := trun_none hi hs
        rw [hR] at this
        exact hQ0 (by rw [this]; show i ≠ -1; omega) ξ hm.1.msc (by rw [this]; exact hm.2.1)
      refine bX8_readsText_34 ⟨by rw [hx3]; exact b2_in _, fun h0 => ?_, fun h0 => ?_⟩
      · rw [hx3, b2_0] at h0
        have ei : i = len := by omega
        have := trun_end (t := t) (n := n) (p := p) (W := W) (show len ≤ i by omega)
        rw [hR, if_neg (hend ei)] at this
        exact hQ1 (by rw [this]) ξ hm.1.msc (by rw [this]; exact hm.2.2.1) (by rw [this]; exact hm.2.2.2)
      · rw [hx3, b2_0, Classical.not_not] at h0
        obtain ⟨hp, h32, h47, hx2⟩ := hlt h0
        clear hlt hend hf
        refine pX8_isLetter tx hm.2.1 i0 i1 ⟨b2_in _, fun hl => ?_, fun hl => ?_⟩
        · rw [b2_0] at hl
          have hl' : ¬ isLet (t i) = true := fun q => hl ⟨h0, q⟩
          refine stop h0 ?_
          unfold tstep
          rw [if_neg hl']
          by_cases e33 : t i = 33
          · rw [if_pos e33, if_neg (by omega)]
          · rw [if_neg e33]
            by_cases e47 : t i = 47
            · rw [if_pos e47, if_neg (by omega)]
            · rw [if_neg e47, if_neg h32]
        · rw [b2_0, Classical.not_not] at hl
          rw [hm.2.2.1]
          have hn := hti.1
          refine ⟨zi _, fun h14 => stop h0 ?_, fun h14 => ?_⟩
          · unfold tstep
            rw [if_pos hl.2, if_neg (by omega), if_neg (by omega), if_pos (by omega)]
          · -- a word begins
            clear h32 h47 hx3
            have hl2 := hl.2
            clear hl
            have mk : ∀ (i' L w q : Int) (W1 : Int → Int) (ζ : zMem), i < i' → i' ≤ len → MT μ ζ i' n W1 → W1 (3 * n) = L → W1 (3 * n + 1) = w → W1 (3 * n + 2) = b2 (p = 4) → (q = 1 ∨ q = 2) → (i' < len → isLet (t i') = true → q = 1 → 12 ≤ L) → (i' < len → t i' = 33 → 3 ≤ w) → TI (n + 1) q W1 → trun t (len - i').toNat i' (n + 1) q W1 = R → zX8_readsText_123 (d + 2) Q x2 L w ζ := fun i' L w q W1 ζ hi' hi1 hmz e1 e2 e3 hq hlet h33 hti1 hR1 =>
              read123 hT (by rw [hx2]; exact b2_in _) (by rw [hx2, b2_ite]) hn.1 (by omega) hQ0 (fun i'' n' p' W' y2 y3 χ g1 g2 g3 g4 g5 g6 g7 g8 => ih (len - i'').toNat (ltf i'' (Int.lt_of_lt_of_le hi' g1) g2) i'' n' p' W' y2 y3 χ rfl (Int.le_trans i0 (Int.le_trans (Int.le_of_lt hi') g1)) g2 g3 g4 g5 g6 g7 g8) (Int.le_trans i0 (Int.le_of_lt hi')) hi1 hmz e1 e2 e3 hq hlet h33 hti1 hR1
            have l92 : ∀ (g : Nat) (i' L w q : Int) (W1 : Int → Int) (ζ : zMem), w + g = 3 → 1 ≤ w → i < i' → i' ≤ len → MT μ ζ i' n W1 → W1 (3 * n) = L → W1 (3 * n + 1) = w → W1 (3 * n + 2) = b2 (p = 4) → ((q = 1 ∧ (i' < len → isLet (t i') = true → 12 ≤ L)) ∨ q = 2) → TI (n + 1) q W1 → trun t (len - i').toNat i' (n + 1) q W1 = R → zX8_readsText_92 (d + 2) Q x2 L w ζ := by
              intro g
              induction g with
              | zero =>
                intro i' L w q W1 ζ hg w1 hi' hi1 hmz e1 e2 e3 hq hti1 hR1
                have fin := mk i' L w q W1 ζ hi' hi1 hmz e1 e2 e3 (by omega) (fun a c e => by rcases hq with h | h; exact h.2 a c; omega) (fun _ _ => by omega) hti1 hR1
                refine bX8_readsText_92 (pX8_isSign (hmz.1.tx hT) hmz.2.1 (by omega) hi1 (zi _) ⟨b2_in _, fun _ => fin, fun _ => ⟨zi _, fun _ => fin, fun h => absurd (by omega) h⟩⟩)
              | succ g ihg =>
                intro i' L w q W1 ζ hg w1 hi' hi1 hmz e1 e2 e3 hq hti1 hR1
                refine bX8_readsText_92 (pX8_isSign (hmz.1.tx hT) hmz.2.1 (by omega) hi1 (zi _) ⟨b2_in _, fun h => ?_, fun h => ⟨zi _, fun h' => absurd h' (by omega), fun _ => ?_⟩⟩)
                · rw [b2_0] at h
                  exact mk i' L w q W1 ζ hi' hi1 hmz e1 e2 e3 (by omega) (fun a c e => by rcases hq with h | h; exact h.2 a c; omega) (fun a c => absurd ⟨a, c⟩ h) hti1 hR1
                · rw [b2_0, Classical.not_not] at h
                  rw [hmz.2.1]
                  have hst : tstep (n + 1) q W1 (t i') = some (n + 1, 2, fu W1 (3 * n + 1) (w + 1)) := by
                    rw [h.2]
                    unfold tstep
                    rw [show 3 * (n + 1 - 1) = 3 * n by omega, if_neg (by decide), if_pos rfl, if_pos (by omega), e2, if_neg (by omega)]
                  refine ihg (i' + 1) L (w + 1) 2 (fu W1 (3 * n + 1) (w + 1)) _ (by omega) (by omega) (by omega) (by omega) ?_ (by rw [fu_o (by omega)]; exact e1) fu_s (by rw [fu_o (by omega)]; exact e3) (Or.inr rfl) (TI_step hti1 hst) ((trun_some h.1 hst).symm.trans hR1)
                  exact ⟨hmz.1.at, gI_sIs, by rw [gI_sIo (by decide)]; exact hmz.2.2.1, fun x a c => by rw [gI_sIn (by decide), fu_o (by omega)]; exact hmz.2.2.2 x a c⟩
            have l59 : ∀ (g : Nat) (i' L : Int) (W1 : Int → Int) (ζ : zMem), L + g = 12 → 1 ≤ L → i < i' → i' ≤ len → MT μ ζ i' n W1 → W1 (3 * n) = L → W1 (3 * n + 1) = 1 → W1 (3 * n + 2) = b2 (p = 4) → TI (n + 1) 1 W1 → trun t (len - i').toNat i' (n + 1) 1 W1 = R → zX8_readsText_59 (d + 2) Q x2 L ζ := by
              intro g
              induction g with
              | zero =>
                intro i' L W1 ζ hg w1 hi' hi1 hmz e1 e2 e3 hti1 hR1
                have fin := l92 2 i' L 1 1 W1 ζ (by omega) (by omega) hi' hi1 hmz e1 e2 e3 (Or.inl ⟨rfl, fun _ _ => by omega⟩) hti1 hR1
                refine bX8_readsText_59 (pX8_isLetter (hmz.1.tx hT) hmz.2.1 (by omega) hi1 ⟨b2_in _, fun _ => fin, fun _ => ⟨zi _, fun _ => fin, fun h => absurd (by omega) h⟩⟩)
              | succ g ihg =>
                intro i' L W1 ζ hg w1 hi' hi1 hmz e1 e2 e3 hti1 hR1
                refine bX8_readsText_59 (pX8_isLetter (hmz.1.tx hT) hmz.2.1 (by omega) hi1 ⟨b2_in _, fun h => ?_, fun h => ⟨zi _, fun h' => absurd h' (by omega), fun _ => ?_⟩⟩)
                · rw [b2_0] at h
                  exact l92 2 i' L 1 1 W1 ζ (by omega) (by omega) hi' hi1 hmz e1 e2 e3 (Or.inl ⟨rfl, fun a c => absurd ⟨a, c⟩ h⟩) hti1 hR1
                · rw [b2_0, Classical.not_not] at h
                  rw [hmz.2.1]
                  have hst : tstep (n + 1) 1 W1 (t i') = some (n + 1, 1, fu W1 (3 * n) (L + 1)) := by
                    unfold tstep
                    rw [show 3 * (n + 1 - 1) = 3 * n by omega, if_pos h.2, if_pos rfl, e1, if_neg (by omega)]
                  refine ihg (i' + 1) (L + 1) (fu W1 (3 * n) (L + 1)) _ (by omega) (by omega) (by omega) (by omega) ?_ fu_s (by rw [fu_o (by omega)]; exact e2) (by rw [fu_o (by omega)]; exact e3) (TI_step hti1 hst) ((trun_some h.1 hst).symm.trans hR1)
                  exact ⟨hmz.1.at, gI_sIs, by rw [gI_sIo (by decide)]; exact hmz.2.2.1, fun x a c => by rw [gI_sIn (by decide), fu_o (by omega)]; exact hmz.2.2.2 x a c⟩
            refine bX8_readsText_59 (pX8_isLetter tx hm.2.1 i0 i1 ⟨b2_in _, fun h => absurd h (by rw [b2_0]; exact fun q => q ⟨h0, hl2⟩), fun _ => ⟨zi _, fun h => absurd h (by decide), fun _ => ?_⟩⟩)
            rw [hm.2.1]
            have hst : tstep n p W (t i) = some (n + 1, 1, fu (fu (fu W (3 * n) 1) (3 * n + 1) 1) (3 * n + 2) (if p = 4 then 1 else 0)) := by
              unfold tstep
              rw [if_pos hl2, if_neg (by omega), if_neg (by omega), if_neg (by omega)]
            refine l59 11 (i + 1) (0 + 1) _ _ (by omega) (by omega) (by omega) (by omega) ?_ ?_ ?_ ?_ (TI_step hti hst) ((trun_some h0 hst).symm.trans hR)
            · exact ⟨hm.1.at, gI_sIs, by rw [gI_sIo (by decide)]; exact hm.2.2.1, fun x a c => by rw [gI_sIn (by decide), fu_o (by omega), fu_o (by omega), fu_o (by omega)]; exact hm.2.2.2 x a c⟩
            · rw [fu_o (by omega), fu_o (by omega), fu_s]
              rfl
            · rw [fu_o (by omega), fu_s]
            · rw [fu_s]
              rfl
  refine bX8_readsText ?_
  have m0 : MT μ (sI (sI μ 54 16 0) 54 18 0) 0 0 c0 := ⟨mtx.rf.at.rd, by rw [gI_sIo (by decide), gI_sIs], gI_sIs, fun x a c => by omega⟩
  refine pX8_blanks (m0.1.tx hT) m0.2.1 (Int.le_refl _) hl0 ?_
  intro m c1 c2 c3
  have m1 : MT μ (sI (sI (sI μ 54 16 0) 54 18 0) 54 16 (0 + m)) (0 + m) 0 c0 := m0.at
  rw [m1.2.1, (m1.1.tx hT).1]
  refine ⟨⟨zi _, zi _⟩, ?_⟩
  have hR1 := (trun_blanks (n := 0) (W := c0) m 0 0 c1 c2).symm.trans hR0
  have h0 : (if m = 0 then (0 : Int) else pB 0) = 0 := by split <;> decide
  rw [h0] at hR1
  refine head (len - (0 + m)).toNat (0 + m) 0 0 c0 0 _ _ rfl (by omega) (by omega) m1 ⟨by omega, by omega, fun q => by omega, fun k a c => by omega⟩ ?_ (fun q => ⟨Or.inl rfl, c3 q, fun z => by omega, (b2_0.mpr (by omega)).symm⟩) (fun _ => by omega) hR1
  unfold b2
  by_cases g : 0 + (m : Int) < len
  · rw [if_neg (by omega), if_pos g]
  · rw [if_pos (by omega), if_neg g]
theorem pX8_textFault {d : Nat} {Q : Int → zMem → Prop} {μ : zMem} {len : Int} {t : Int → Int} (hT : TXT μ len t) (hQ : ∀ μ', msc μ μ' → Q (trun t (len - 0).toNat 0 0 0 c0).1 μ') : kX8_textFault (d + 4) μ Q := by
  refine bX8_textFault ?_
  refine pX8_readsText hT rfl (fun h μ' m e => ⟨zi _, ?_⟩) (fun h μ' m _ _ => ⟨zi _, ?_⟩)
  · rw [if_pos rfl, e]
    exact hQ μ' m
  · rw [if_neg (by decide)]
    have := hQ μ' m
    rw [h] at this
    exact this
def lodS (s : Int → Int) (n : Int) (W : Int → Int) (j : Int) : Int → Int := fun i => if 32 ≤ i ∧ i < 32 + j then W (i - 32) else if i = 31 then n else s i
theorem pX8_load {d : Nat} {Q : Int → zMem → Prop} {μ : zMem} {s : Int → Int} {len : Int} {t : Int → Int} {R : Int × Int × Int × (Int → Int)} (h : mpre μ s) (hT : TXT μ len t) (hR0 : trun t (len - 0).toNat 0 0 0 c0 = R)
    (hbad : R.1 ≠ -1 → ∀ μ', msc μ μ' → Q (-4) μ') (hok : R.1 = -1 → ∀ μ', mop μ μ' (lodS s R.2.1 R.2.2.2 (3 * R.2.1)) → Q R.2.1 μ') : kX8_load (d + 4) μ Q := by
  obtain ⟨hr, hw, k0, k1⟩ := h
  have hti := TI_run (t := t) (len - 0).toNat 0 0 0 c0 ⟨by omega, by omega, fun q => by omega, fun k a c => by omega⟩
  rw [hR0] at hti
  have hn14 := hti.1
  refine bX8_load ?_
  refine pX8_readsText hT hR0 (fun h μ' m e => ⟨zi _, fun _ => hbad h μ' m, fun q => absurd rfl q⟩) (fun h ξ m e18 e64 => ⟨zi _, fun q => absurd q (by decide), fun _ => ?_⟩)
  refine pX8_records (by rw [m.2.2.2.1]; exact k0) (by rw [m.2.2.2.1]; exact k1) ?_
  intro ζ hrec
  have mz := mop_rec hrec (m.row hr)
  have rd : ∀ i, i ≠ 1 → gI ζ 54 i = gI ξ 54 i := hrec.2.2.2.1
  have r64 : gI ζ 64 = gI ξ 64 := hrec.2.1 64 (by decide) (by decide)
  rw [rd 18 (by decide), e18]
  have k0' : 0 ≤ gI ξ 54 1 := by rw [m.2.2.2.1]; exact k0
  have toμ : ∀ {χ : zMem} {s' : Int → Int}, mop ξ χ s' → mop μ χ s' := fun {χ s'} w => ⟨m.1.tr w.1, by rw [w.2.1, m.2.2.2.1], by rw [w.2.2.1, m.2.2.2.2], by rw [w.2.2.2.1, m.2.2.1], w.2.2.2.2.1, by
    have w6 := w.2.2.2.2.2
    rw [m.2.2.2.1, m.2.1] at w6
    exact w6⟩
  have loop : ∀ (f : Nat) (j : Int) (χ : zMem), j + f = 3 * R.2.1 → 0 ≤ j → mop ξ χ (lodS s R.2.1 R.2.2.2 j) → gI χ 54 18 = R.2.1 → gI χ 64 = gI ξ 64 → zX8_load_27 (d + 3) Q j χ := by
    intro f
    induction f with
    | zero =>
      intro j χ hj j0 w1 w2 w3
      refine bX8_load_27 ⟨zi _, by rw [w2]; exact zi _, fun _ => ?_, fun q => absurd (by rw [w2]; omega) q⟩
      rw [w2]
      have ej : j = 3 * R.2.1 := by omega
      rw [ej] at w1
      exact hok h χ (toμ w1)
    | succ f ih =>
      intro j χ hj j0 w1 w2 w3
      refine bX8_load_27 ⟨zi _, by rw [w2]; exact zi _, fun q => absurd q (by rw [w2]; omega), fun _ => ⟨by omega, by omega, by omega, by omega, ?_⟩⟩
      rw [w3, e64 j j0 (by omega)]
      refine ih (j + 1) _ (by omega) (by omega) ((w1.sI k0' (by omega)).congr (fun i _ _ => ?_)) (by rw [gI_sIn (by decide)]; exact w2) (by rw [gI_sIn (by decide)]; exact w3)
      unfold fu lodS
      by_cases g : i = 32 + j
      · rw [if_pos g, if_pos (by omega), g, show 32 + j - 32 = j by omega]
      · rw [if_neg g]
        by_cases g' : 32 ≤ i ∧ i < 32 + j
        · rw [if_pos g', if_pos (by omega)]
        · rw [if_neg g', if_neg (show ¬ (32 ≤ i ∧ i < 32 + (j + 1)) by omega)]
  refine loop (3 * R.2.1).toNat 0 _ (by omega) (Int.le_refl _) ((mz.sI k0' (by decide)).congr (fun i _ _ => ?_)) (by rw [gI_sIn (by decide), rd 18 (by decide)]; exact e18) (by rw [gI_sIn (by decide)]; exact r64)
  unfold fu lodS
  rw [if_neg (show ¬ (32 ≤ i ∧ i < 32 + 0) by omega)]
