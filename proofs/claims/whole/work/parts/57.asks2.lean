/-! calls that ask, side by side: the others -/
theorem bnd.scf {μ μ' : zMem} (h : bnd μ μ') : scf μ μ' := ⟨h.1, h.2.1, h.2.2.1, fun q a => h.2.2.2 q (by omega) (by omega) (by omega)⟩
theorem sim_isFree {d e : Nat} {B x1 x2 : Int} {μ : zMem} (h1 : zIn x1) (h2 : zIn x2) (h : SIM B μ) : kX7_isFree (d + 1) x1 x2 μ (fun r μ1 => kX8_isFree (e + 3) x1 x2 μ1 (twin B r)) := by
  obtain ⟨s, hh, n, f, H⟩ := h
  have fin : ∀ r, (¬ ((0 ≤ x1 ∧ x1 ≤ 47) ∧ (0 ≤ x2 ∧ x2 ≤ 35)) → r = -3) → ((0 ≤ x1 ∧ x1 ≤ 47) ∧ (0 ≤ x2 ∧ x2 ≤ 35) → r = b2 (freeB s x1 x2 = true)) → kX8_isFree (e + 3) x1 x2 μ (twin B r) := fun r a c => pX8_isFree H.pre h1 h2 (fun g => by rw [a g]; exact ⟨zi _, zi _, rfl, s, hh, n, f, H⟩) (fun g => by rw [c g]; exact ⟨b2_in _, b2_in _, rfl, s, hh, n, f, H⟩)
  refine bX7_isFree (cin h1 (zi _) (zi _) (fun g => fin _ (fun _ => rfl) (fun q => absurd q.1 g)) (fun g1 => ?_))
  refine cin h2 (zi _) (zi _) (fun g => fin _ (fun _ => rfl) (fun q => absurd q.2 g)) (fun g2 => ?_)
  refine pX1_isFreeAt (s := s) H.2.2.2.2.1.2.2.1 g1.1 g1.2 g2.1 g2.2 ⟨b2_in _, ?_⟩
  rw [b2_ite]
  exact fin _ (fun q => absurd ⟨g1, g2⟩ q) (fun _ => rfl)
theorem span_one {d : Nat} {Q : Int → zMem → Prop} {B : Int} {s : Int → Int} {hh : Int → Int → Int} {n : Int} {f : Int → Nat} {μ : zMem} {x1 x2 x3 : Int} (hB : B ≤ 2000000000) (h1 : zIn x1) (h2 : zIn x2) (h3 : zIn x3) (H : SM B s hh n f μ)
    (hQ : ∀ μ', scf μ μ' → BND s μ' → Q (if (0 ≤ x1 ∧ x1 ≤ 35) ∧ (1 ≤ x2 ∧ x2 ≤ 36 - x1) ∧ (0 ≤ x3 ∧ x3 ≤ 1) then (if x3 = 0 then SL s x1 x2 else SF s x1 x2) else -3) μ') : kX7_span (d + 2) x1 x2 x3 μ Q := by
  have hb := H.2.2.2.2.2.1
  have hc := H.2.2.2.2.2.2.1
  have bad : ¬ ((0 ≤ x1 ∧ x1 ≤ 35) ∧ (1 ≤ x2 ∧ x2 ≤ 36 - x1) ∧ (0 ≤ x3 ∧ x3 ≤ 1)) → Q (-3) μ := fun g => by
    have := hQ μ scf.rf hb
    rw [if_neg g] at this
    exact this
  refine bX7_span (bX7_isBand (cin h1 (zi _) (zi _) (fun g => ⟨zi _, fun _ => bad (fun q => g q.1), fun q => absurd rfl q⟩) (fun g1 => ?_)))
  refine pX7_isIn h2 (zi _) (zi _) ⟨⟨b2_in _, fun _ => trivial, fun g => ?_⟩, ?_⟩
  · rw [b2_0, Classical.not_not] at g
    exact zi _
  · have e : (if b2 (1 ≤ x2 ∧ x2 ≤ 36) = 0 then (0 : Int) else if 36 < x1 + x2 then 0 else 1) = b2 (1 ≤ x2 ∧ x2 ≤ 36 - x1) := by
      by_cases g : 1 ≤ x2 ∧ x2 ≤ 36
      · rw [b2_1.mpr g, if_neg (by decide)]
        unfold b2
        split <;> split <;> omega
      · rw [b2_0.mpr g, if_pos rfl, b2_0.mpr (by omega)]
    rw [e]
    refine ⟨b2_in _, fun g => bad (fun q => b2_0.mp g q.2.1), fun g => ?_⟩
    rw [b2_0, Classical.not_not] at g
    refine cin h3 (zi _) (zi _) (fun g3 => bad (fun q => g3 q.2.2)) (fun g3 => ?_)
    refine pX0_learn (s := s) H.2.2.2.2.1.2.2.1 hb (zi _) (by omega) (by omega) ?_
    intro μ' a1 a2 a3 a4
    have kn := (a2 x2 (by omega) (by omega)).2.2 (by rw [a3, a1.2.2.2 2 (by decide) (by decide) (by decide)])
    have hq := hQ μ' a1.scf a2
    rw [if_pos ⟨g1, g, g3⟩] at hq
    refine ⟨h3, fun e3 => ?_, fun e3 => ?_⟩
    · rw [if_pos e3] at hq
      exact pX0_lengthOf kn g1.1 g.1 (by omega) hq
    · rw [if_neg e3] at hq
      exact pX0_firstOf kn g1.1 g.1 (by omega) hq
theorem spanV_z {s : Int → Int} {x1 x2 x3 : Int} : zIn (if (0 ≤ x1 ∧ x1 ≤ 35) ∧ (1 ≤ x2 ∧ x2 ≤ 36 - x1) ∧ (0 ≤ x3 ∧ x3 ≤ 1) then (if x3 = 0 then SL s x1 x2 else SF s x1 x2) else -3) := by
  have := SL_bd s x1 x2
  split
  · split <;> exact zi _
  · exact zi _
theorem sim_span {d e : Nat} {B x1 x2 x3 : Int} {μ : zMem} (hB : B ≤ 2000000000) (h1 : zIn x1) (h2 : zIn x2) (h3 : zIn x3) (h : SIM B μ) : kX7_span (d + 2) x1 x2 x3 μ (fun r μ1 => kX8_span (e + 4) x1 x2 x3 μ1 (twin B r)) := by
  obtain ⟨s, hh, n, f, H⟩ := h
  refine span_one hB h1 h2 h3 H ?_
  intro μ1 a c
  have H1 := H.csc a.csc c
  exact pX8_span H1.1.1 H1.1.2.1 h1 h2 h3 (fun μ' m => ⟨spanV_z, spanV_z, rfl, s, hh, n, f, H1.msc m⟩)
theorem fsum_bd (s : Int → Int) : ∀ x : Nat, 0 ≤ fsum s x ∧ fsum s x ≤ 36 * x
  | 0 => by simp [fsum]
  | x + 1 => by
    have ih := fsum_bd s x
    have h : ∀ y : Nat, 0 ≤ fcnt s (x : Int) y ∧ fcnt s (x : Int) y ≤ y := by
      intro y
      induction y with
      | zero => simp [fcnt]
      | succ y ihy =>
        unfold fcnt
        have := b2_01 (freeB s (x : Int) (y : Int) = true)
        omega
    have := h 36
    unfold fsum
    omega
theorem count_one {d : Nat} {Q : Int → zMem → Prop} {s : Int → Int} {μ : zMem} {w : Int} (hw : wf s) (hp : wfP s) (hx : XS 1 s μ) (h1 : zIn w) (hQ : zIn (countV s w) → Q (countV s w) μ) : kX7_count (d + 2) w μ Q := by
  obtain ⟨a1, a2, a3, a4, a5, a6, a7⟩ := hx
  obtain ⟨w1, w2, w3, w4, w5, w6, w7, w8, w9, w10, w11, w12⟩ := hw
  have fb := fsum_bd s 48
  refine bX7_count (cin h1 (zi _) (zi _) (fun g => ⟨h1, fun e => ?_, fun e0 => ⟨fun e => ?_, fun e1 => ⟨fun e => ?_, fun e2 => ⟨fun e => ?_, fun e3 => ?_⟩⟩⟩⟩) (fun g => ⟨by omega, by omega, ?_⟩))
  · rw [a1]
    have ev : countV s w = s 0 := by
      unfold countV
      rw [if_neg (by omega), if_pos e]
    rw [ev] at hQ
    exact hQ (zi _)
  · rw [a4]
    have ev : countV s w = s 31 := by
      unfold countV
      rw [if_neg (by omega), if_neg e0, if_pos e]
    rw [ev] at hQ
    exact hQ (zi _)
  · refine pX1_freeCells (s := s) a3 ?_
    have ev : countV s w = fsum s 48 := by
      unfold countV
      rw [if_neg (by omega), if_neg e0, if_neg e1, if_neg (by omega), if_pos e]
    rw [ev] at hQ
    exact hQ (zi _)
  · have ev : countV s w = s 82 := by
      unfold countV
      rw [if_neg (by omega), if_neg e0, if_neg e1, if_neg (by omega), if_neg e2]
    rw [ev] at hQ
    rcases a7 with ⟨p, q⟩ | ⟨p, q, q', _⟩
    · rw [p] at hQ
      exact ⟨fun _ => hQ (zi _), fun q5 h5 => by rw [q] at h5; cases h5⟩
    · rw [p] at hQ
      exact ⟨fun h5 => (by rw [q'] at h5; cases h5), fun _ _ => hQ (zi _)⟩
  · have ev : countV s w = -3 := by
      unfold countV
      rw [if_pos (by omega)]
    rw [ev] at hQ
    exact hQ (zi _)
  · have ev : countV s w = s (72 + w) := by
      unfold countV
      rw [if_neg (by omega), if_neg (by omega), if_neg (by omega), if_pos (by omega)]
    have e6 := a6 (w - 2) (by omega) (by omega)
    rw [show 74 + (w - 2) = 72 + w by omega] at e6
    rw [show gI μ 6 (w - 2) = s (72 + w) from e6]
    rw [ev] at hQ
    refine hQ ?_
    have : w = 2 ∨ w = 3 ∨ w = 4 ∨ w = 5 ∨ w = 6 ∨ w = 7 ∨ w = 8 ∨ w = 9 := by omega
    rcases this with e | e | e | e | e | e | e | e <;> rw [e]
    · exact zi (s 74)
    · exact zi (s 75)
    · exact zi (s 76)
    · exact zi (s 77)
    · exact zi (s 78)
    · exact zi (s 79)
    · exact zi (s 80)
    · exact zi (s 81)
theorem sim_count {d e : Nat} {B x1 : Int} {μ : zMem} (h1 : zIn x1) (h : SIM B μ) : kX7_count (d + 2) x1 μ (fun r μ1 => kX8_count (e + 4) x1 μ1 (twin B r)) := by
  obtain ⟨s, hh, n, f, H⟩ := h
  refine count_one H.1.2.1 H.1.2.2 H.2.2.2.2.1 h1 (fun z => ?_)
  exact pX8_count H.1.1 H.1.2.1 h1 ⟨z, z, rfl, s, hh, n, f, H⟩
theorem sim_word {d e : Nat} {B x1 x2 : Int} {μ : zMem} (h1 : zIn x1) (h2 : zIn x2) (h : SIM B μ) : kX7_word (d + 1) x1 x2 μ (fun r μ1 => kX8_word (e + 2) x1 x2 μ1 (twin B r)) := by
  obtain ⟨s, hh, n, f, H⟩ := h
  have hx := H.2.2.2.2.1
  have hn := H.1.2.1.2.2.1
  have S : SIM B μ := ⟨s, hh, n, f, H⟩
  refine bX7_word ?_
  rw [hx.2.2.2.1]
  refine cin h1 (zi _) (zi _) (fun g => pX8_word H.1.1 H.1.2.1 h1 h2 (fun _ => ⟨zi _, zi _, rfl, S⟩) (fun q => absurd (by omega) g) (fun q => absurd (by omega) g)) (fun g => ?_)
  refine cin h2 (zi _) (zi _) (fun g2 => pX8_word H.1.1 H.1.2.1 h1 h2 (fun q => absurd (by omega) q) (fun _ _ => ⟨zi _, zi _, rfl, S⟩) (fun _ q => absurd q g2)) (fun g2 => ?_)
  refine bX5_partOfWord ⟨by omega, by omega, ?_⟩
  rw [hx.2.2.2.2.1 _ (by omega) (by omega), show 32 + (x1 * 3 + x2) = 32 + 3 * x1 + x2 by omega]
  have wk := H.1.2.1.2.2.2.1 x1 g.1 (by omega)
  have z : zIn (s (32 + 3 * x1 + x2)) := by
    have : x2 = 0 ∨ x2 = 1 ∨ x2 = 2 := by omega
    rcases this with e | e | e <;> rw [e] <;> exact zi _
  exact pX8_word H.1.1 H.1.2.1 h1 h2 (fun q => absurd (by omega) q) (fun _ q => absurd g2 q) (fun _ _ => ⟨z, z, rfl, S⟩)
theorem sim_textFault {d e : Nat} {B : Int} {μ : zMem} (h : SIM B μ) : kX7_textFault (d + 5) μ (fun r μ1 => kX8_textFault (e + 4) μ1 (twin B r)) := by
  obtain ⟨s, hh, n, f, H⟩ := h
  have tx := H.2.2.2.2.2.2.2
  refine bX7_textFault ?_
  rw [tx.1]
  have hR := trun_bd (t := gI μ 63) (gI μ 54 15 - 0).toNat 0 0 0 c0 (Int.le_refl _)
  refine pX6_read (t := gI μ 63) tx.2.1 tx.2.2.1 tx.2.2.2 rfl ?_
  intro μ1 a _
  have c1 : csc μ μ1 := ⟨lay_of a.1 (fun q hq => ⟨a.2.2.2 q (by omega) (by omega), by rw [a.2.1]⟩), fun q _ => by rw [a.2.1], a.2.2.1, fun q hq => a.2.2.2 q (by omega) (by omega)⟩
  have H1 := H.csc c1 (fun r x y => by
    rw [a.2.2.2 15 (by decide) (by decide), a.2.2.2 2 (by decide) (by decide)]
    have := H.2.2.2.2.2.1 r x y
    refine ⟨this.1, this.2.1, fun q row z w => ?_⟩
    rw [a.2.2.2 13 (by decide) (by decide), a.2.2.2 14 (by decide) (by decide)]
    exact this.2.2 q row z w)
  refine pX8_textFault (len := gI μ 54 15) (t := gI μ 63) ⟨by rw [a.2.2.2 54 (by decide) (by decide)], tx.2.1, tx.2.2.1, by rw [a.2.2.2 63 (by decide) (by decide)], fun x p q => (tx.2.2.2 x p q).2⟩ ?_
  intro μ' m
  have hb : zIn (trun (gI μ 63) (gI μ 54 15 - 0).toNat 0 0 0 c0).1 := by
    have := tx.2.2.1
    exact zi _ (by omega)
  exact ⟨hb, hb, rfl, s, hh, n, f, H1.msc m⟩
