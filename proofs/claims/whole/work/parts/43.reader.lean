/-! the class's reader -/
def rdf (μ μ' : zMem) : Prop := gD μ' = gD μ ∧ gR μ' = gR μ ∧ gL μ' = gL μ ∧ ∀ q, q ≠ 9 → q ≠ 10 → gI μ' q = gI μ q
theorem rdf.rf {μ : zMem} : rdf μ μ := ⟨rfl, rfl, rfl, fun _ _ _ => rfl⟩
theorem rdf.tr {μ μ' μ'' : zMem} (h : rdf μ μ') (h' : rdf μ' μ'') : rdf μ μ'' := ⟨h'.1.trans h.1, h'.2.1.trans h.2.1, h'.2.2.1.trans h.2.2.1, fun q a b => (h'.2.2.2 q a b).trans (h.2.2.2 q a b)⟩
theorem rdf.w {μ μ' : zMem} {p : Nat} {i v : Int} (h : rdf μ μ') (hp : p = 9 ∨ p = 10) : rdf μ (sI μ' p i v) := ⟨h.1, h.2.1, h.2.2.1, fun q a b => by rw [gI_sIn (by omega)]; exact h.2.2.2 q a b⟩
def CR (ξ : zMem) (n p : Int) (W : Int → Int) : Prop := gI ξ 9 0 = n ∧ gI ξ 9 2 = p ∧ ∀ x, 0 ≤ x → x < 3 * n → gI ξ 10 x = W x
theorem CR.go {ξ : zMem} {n p q : Int} {W : Int → Int} (h : CR ξ n p W) : CR (sI ξ 9 2 q) n q W := ⟨by rw [gI_sIo (by decide)]; exact h.1, gI_sIs, fun x a b => by rw [gI_sIn (by decide)]; exact h.2.2 x a b⟩
theorem pX6_isLetter {d : Nat} {Q : Int → zMem → Prop} {μ : zMem} {c : Int} (hc : zIn c) (hQ : Q (b2 (isLet c = true)) μ) : kX6_isLetter (d + 1) c μ Q := by
  refine bX6_isLetter (cin hc (zi _) (zi _) (fun g => ?_) (fun g => ?_))
  · refine pX7_isIn hc (zi _) (zi _) ⟨b2_in _, ?_⟩
    rw [b2_ite, b2_eq (q := isLet c = true) (by rw [isLet_iff]; omega)]
    exact hQ
  · rw [b2_1.mpr (isLet_iff.mpr (Or.inl g))] at hQ
    exact hQ
theorem pX6_add {d : Nat} {Q : Int → zMem → Prop} {μ : zMem} {n p g j : Int} {W : Int → Int} (h : CR μ n p W) (n1 : 1 ≤ n) (n2 : n ≤ 14) (hj : j = 0 ∨ j = 1) (hg : zIn g) (hv : zIn (W (3 * (n - 1) + j))) (hno : g ≤ W (3 * (n - 1) + j) → Q 0 μ)
    (hok : ¬ g ≤ W (3 * (n - 1) + j) → ∀ μ', rdf μ μ' → CR μ' n p (fu W (3 * (n - 1) + j) (W (3 * (n - 1) + j) + 1)) → Q 1 μ') : kX6_addUpTo d g j μ Q := by
  refine bX6_addUpTo ?_
  rw [h.1, show (n - 1) * 3 + j = 3 * (n - 1) + j by omega, h.2.2 _ (by omega) (by omega)]
  refine ⟨zi _, fun q => by omega, fun _ => ⟨by omega, by omega, hv, hg, fun q => hok (by omega) _ (rdf.rf.w (by omega)) ⟨by rw [gI_sIn (by decide)]; exact h.1, by rw [gI_sIn (by decide)]; exact h.2.1, fun x a b => ?_⟩, fun q => hno (by omega)⟩⟩
  by_cases e : x = 3 * (n - 1) + j
  · rw [e, gI_sIs, fu_s]
  · rw [gI_sIo e, fu_o e]
    exact h.2.2 x a b
theorem pX6_accepts {d : Nat} {Q : Int → zMem → Prop} {μ : zMem} {n p c : Int} {W : Int → Int} (h : CR μ n p W) (ht : TI n p W) (hc : zIn c) (hno : tstep n p W c = none → ∀ μ', rdf μ μ' → Q 0 μ') (hok : ∀ n' p' W', tstep n p W c = some (n', p', W') → ∀ μ', rdf μ μ' → CR μ' n' p' W' → Q 1 μ') : kX6_accepts (d + 3) c μ Q := by
  obtain ⟨t1, t2, t3, t4⟩ := ht
  refine bX6_accepts (pX6_isLetter hc ⟨b2_in _, fun g => ?_, fun g => ?_⟩)
  · rw [b2_0] at g
    refine ⟨hc, fun e => ?_, fun e32 => ⟨fun e => ?_, fun e33 => ⟨fun e => ?_, fun e47 => ?_⟩⟩⟩
    · rw [h.2.1]
      refine ⟨zi _, bX6_goTo ⟨Or.inr rfl, ?_⟩⟩
      refine hok n (pB p) W (by rw [e]; exact tstep_blank) _ (rdf.rf.w (by omega)) ?_
      have eb : (if p = 1 then (3 : Int) else if p = 2 then 3 else p) = pB p := by
        unfold pB
        by_cases a : p = 1
        · rw [if_pos a, if_pos (Or.inl a)]
        · rw [if_neg a]
          by_cases b : p = 2
          · rw [if_pos b, if_pos (Or.inr b)]
          · rw [if_neg b, if_neg (by omega)]
      rw [eb]
      exact h.go
    · have shout : p = 1 ∨ p = 2 → ∀ {Q' : Int → zMem → Prop}, (∀ r μ', Q r μ' → (r = 0 ∨ r = 1) → Q' r μ') → kX6_addShout (d + 2) μ Q' := by
        intro hp Q' hQ'
        have w := t4 (n - 1) (by have := t3 hp; omega) (by omega)
        have st : tstep n p W c = if 3 ≤ W (3 * (n - 1) + 1) then none else some (n, 2, fu W (3 * (n - 1) + 1) (W (3 * (n - 1) + 1) + 1)) := by
          rw [e]
          unfold tstep
          rw [if_neg (by decide), if_pos rfl, if_pos hp]
        refine bX6_addShout (pX6_add h (t3 hp) t1.2 (Or.inr rfl) (zi _) (zi _) (fun q => ?_) (fun q μ' f1 f2 => ?_))
        · rw [if_pos q] at st
          exact ⟨zi _, fun _ => hQ' 0 μ (hno st μ rdf.rf) (Or.inl rfl), fun z => absurd rfl z⟩
        · rw [if_neg q] at st
          refine ⟨zi _, fun z => absurd z (by decide), fun _ => bX6_goTo ⟨zi _, ?_⟩⟩
          rw [if_neg (by decide)]
          exact hQ' 1 _ (hok _ _ _ st _ (f1.w (by omega)) f2.go) (Or.inr rfl)
      rw [h.2.1]
      have fin : ∀ r μ', Q r μ' → (r = 0 ∨ r = 1) → (zIn r ∧ Q (if r = 0 then 0 else 1) μ') := by
        intro r μ' q hr
        rcases hr with hr | hr <;> subst hr <;> exact ⟨zi _, q⟩
      refine ⟨zi _, fun hp => shout (Or.inl hp) fin, fun hp => ⟨fun hp2 => shout (Or.inr hp2) fin, fun hp2 => hno ?_ μ rdf.rf⟩⟩
      rw [e]
      unfold tstep
      rw [if_neg (by decide), if_pos rfl, if_neg (by omega)]
    · rw [h.2.1]
      have st : tstep n p W c = if p ≠ 0 ∧ p ≠ 4 then some (n, 4, W) else none := by
        rw [e]
        unfold tstep
        rw [if_neg (by decide), if_neg (by decide), if_pos rfl]
      refine ⟨zi _, fun hp => ?_, fun hp => ⟨fun hp4 => ?_, fun hp4 => bX6_goTo ⟨zi _, ?_⟩⟩⟩
      · rw [if_neg (by omega)] at st
        exact hno st μ rdf.rf
      · rw [if_neg (by omega)] at st
        exact hno st μ rdf.rf
      · rw [if_pos ⟨hp, hp4⟩] at st
        rw [if_neg (by decide)]
        exact hok _ _ _ st _ (rdf.rf.w (by omega)) h.go
    · refine hno ?_ μ rdf.rf
      unfold tstep
      rw [if_neg g, if_neg e33, if_neg e47, if_neg e32]
  · rw [b2_0, Classical.not_not] at g
    rw [h.2.1]
    refine ⟨zi _, fun hp => ?_, fun hp => ⟨fun hp2 => ?_, fun hp2 => ?_⟩⟩
    · have w := t4 (n - 1) (by have := t3 (Or.inl hp); omega) (by omega)
      have st : tstep n p W c = if 12 ≤ W (3 * (n - 1)) then none else some (n, 1, fu W (3 * (n - 1)) (W (3 * (n - 1)) + 1)) := by
        unfold tstep
        rw [if_pos g, if_pos hp]
      refine bX6_addLetter (pX6_add (j := 0) h (t3 (Or.inl hp)) t1.2 (Or.inl rfl) (zi _) (by rw [Int.add_zero]; exact zi _) (fun q => ?_) (fun q μ' f1 f2 => ?_))
      · rw [Int.add_zero] at q
        rw [if_pos q] at st
        exact ⟨zi _, fun _ => ⟨Or.inl rfl, hno st μ rdf.rf⟩, fun z => absurd rfl z⟩
      · rw [Int.add_zero] at q f2
        rw [if_neg q] at st
        refine ⟨zi _, fun z => absurd z (by decide), fun _ => bX6_goTo ⟨zi _, ?_⟩⟩
        rw [if_neg (by decide)]
        exact ⟨Or.inr rfl, hok _ _ _ st _ (f1.w (by omega)) f2.go⟩
    · refine hno ?_ μ rdf.rf
      unfold tstep
      rw [if_pos g, if_neg hp, if_pos hp2]
    · have st : tstep n p W c = if 14 ≤ n then none else some (n + 1, 1, fu (fu (fu W (3 * n) 1) (3 * n + 1) 1) (3 * n + 2) (if p = 4 then 1 else 0)) := by
        unfold tstep
        rw [if_pos g, if_neg hp, if_neg hp2]
      refine bX6_beginWord ?_
      simp only [gI_sIn (show (9 : Nat) ≠ 10 by decide)]
      rw [h.1, h.2.1]
      refine ⟨zi _, fun hn => ⟨by omega, by omega, by omega, by omega, zi _, by omega, by omega, bX6_goTo ⟨Or.inr rfl, zi _, ?_⟩⟩, fun hn => ⟨zi _, ?_⟩⟩
      · rw [if_neg (by decide)]
        rw [if_neg (by omega)] at st
        refine hok _ _ _ st _ (((((rdf.rf.w (by omega)).w (by omega)).w (by omega)).w (by omega)).w (by omega)) ⟨by rw [gI_sIo (by decide), gI_sIs], gI_sIs, fun x a b => ?_⟩
        rw [gI_sIn (by decide), gI_sIn (by decide), show n * 3 + 0 = 3 * n by omega, show n * 3 + 1 = 3 * n + 1 by omega, show n * 3 + 2 = 3 * n + 2 by omega]
        by_cases e2 : x = 3 * n + 2
        · rw [e2, gI_sIs, fu_s]
        by_cases e1 : x = 3 * n + 1
        · rw [gI_sIo e2, fu_o e2, e1, gI_sIs, fu_s]
        by_cases e0 : x = 3 * n
        · rw [gI_sIo e2, fu_o e2, gI_sIo e1, fu_o e1, e0, gI_sIs, fu_s]
        rw [gI_sIo e2, fu_o e2, gI_sIo e1, fu_o e1, gI_sIo e0, fu_o e0]
        exact h.2.2 x a (by omega)
      · rw [if_pos trivial]
        rw [if_pos (by omega)] at st
        exact hno st μ rdf.rf
theorem pX6_read {d : Nat} {Q : Int → zMem → Prop} {μ : zMem} {len : Int} {t : Int → Int} {R : Int × Int × Int × (Int → Int)} (l0 : 0 ≤ len) (l1 : len ≤ 80) (ht : ∀ x, 0 ≤ x → x < len → gI μ 8 x = t x ∧ 0 ≤ t x ∧ t x ≤ 255) (hR0 : trun t (len - 0).toNat 0 0 0 c0 = R)
    (hQ : ∀ μ', rdf μ μ' → (R.1 = -1 → CR μ' R.2.1 R.2.2.1 R.2.2.2) → Q R.1 μ') : kX6_read (d + 4) len μ Q := by
  have loop : ∀ (f : Nat) (i n p : Int) (W : Int → Int) (ξ : zMem), i + f = len → 0 ≤ i → rdf μ ξ → CR ξ n p W → TI n p W → trun t (len - i).toNat i n p W = R → zX6_read_12 (d + 3) Q len i ξ := by
    intro f
    induction f with
    | zero =>
      intro i n p W ξ hf i0 h1 h2 h3 h4
      have tp := h3.2.1
      have := trun_end (t := t) (n := n) (p := p) (W := W) (show len ≤ i by omega)
      rw [h4] at this
      refine bX6_read_12 ⟨zi _, zi _, fun _ => ⟨by rw [h2.2.1]; exact zi _, ?_⟩, fun q => absurd (by omega) q⟩
      rw [h2.2.1, show len = i by omega]
      have hq := hQ ξ h1 (fun _ => by rw [this]; exact h2)
      rw [this] at hq
      exact hq
    | succ f ih =>
      intro i n p W ξ hf i0 h1 h2 h3 h4
      have tx := ht i i0 (by omega)
      refine bX6_read_12 ⟨zi _, zi _, fun q => absurd q (by omega), fun _ => ⟨zi _, fun q => absurd q (by omega), fun _ => ⟨by omega, by omega, ?_⟩⟩⟩
      rw [h1.2.2.2 8 (by decide) (by decide), tx.1]
      refine pX6_accepts h2 h3 (zi _) (fun hs μ' f1 => ?_) (fun n' p' W' hs μ' f1 f2 => ?_)
      · have := trun_none (len := len) (by omega) hs
        rw [h4] at this
        refine ⟨zi _, fun _ => ?_, fun q => absurd rfl q⟩
        have hq := hQ μ' (h1.tr f1) (fun q => by
          rw [this] at q
          have q' : i = -1 := q
          omega)
        rw [this] at hq
        exact hq
      · refine ⟨zi _, fun q => absurd q (by decide), fun _ => ?_⟩
        exact ih (i + 1) n' p' W' μ' (by omega) (by omega) (h1.tr f1) f2 (TI_step h3 hs) ((trun_some (by omega) hs).symm.trans h4)
  refine bX6_read (loop len.toNat 0 0 0 c0 _ (by omega) (Int.le_refl _) ((rdf.rf.w (by omega)).w (by omega)) ⟨by rw [gI_sIo (by decide), gI_sIs], gI_sIs, fun x a b => by omega⟩ ⟨by omega, by omega, fun q => by omega, fun k a b => by omega⟩ hR0)
