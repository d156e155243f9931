/-! load, side by side -/
theorem sim_load {d e : Nat} {B : Int} {μ : zMem} (h : SIM B μ) : kX7_load (d + 5) μ (fun r μ1 => kX8_load (e + 4) μ1 (twin (B + 2) r)) := by
  obtain ⟨s, hh, n, f, H⟩ := h
  have tx := H.2.2.2.2.2.2.2
  have hw := H.1.2.1
  have hn := hw.2.2.1
  obtain ⟨R, hR⟩ : ∃ R, trun (gI μ 63) (gI μ 54 15 - 0).toNat 0 0 0 c0 = R := ⟨_, rfl⟩
  have hti := TI_run (t := gI μ 63) (gI μ 54 15 - 0).toNat 0 0 0 c0 ⟨by omega, by omega, fun q => by omega, fun k a c => by omega⟩
  have hbd := trun_bd (t := gI μ 63) (gI μ 54 15 - 0).toNat 0 0 0 c0 (Int.le_refl _)
  rw [hR] at hti hbd
  obtain ⟨t1, t2, t3, t4⟩ := hti
  refine bX7_load ?_
  rw [tx.1]
  have tb := tx.2.2.1
  have tb0 := tx.2.1
  refine pX6_read (t := gI μ 63) tx.2.1 tx.2.2.1 tx.2.2.2 hR ?_
  intro μ0 a hcr
  have c1 : csc μ μ0 := ⟨lay_of a.1 (fun q hq => ⟨a.2.2.2 q (by omega) (by omega), by rw [a.2.1]⟩), fun q _ => by rw [a.2.1], a.2.2.1, fun q hq => a.2.2.2 q (by omega) (by omega)⟩
  have H0 := H.csc c1 (fun r x y => by
    rw [a.2.2.2 15 (by decide) (by decide), a.2.2.2 2 (by decide) (by decide)]
    have := H.2.2.2.2.2.1 r x y
    refine ⟨this.1, this.2.1, fun q row z w => ?_⟩
    rw [a.2.2.2 13 (by decide) (by decide), a.2.2.2 14 (by decide) (by decide)]
    exact this.2.2 q row z w)
  have T0 : ∀ {μ1 : zMem}, gI μ1 54 15 = gI μ0 54 15 → gI μ1 63 = gI μ0 63 → TXT μ1 (gI μ 54 15) (gI μ 63) := fun {μ1} p q => ⟨by rw [p, a.2.2.2 54 (by decide) (by decide)], tx.2.1, tx.2.2.1, by rw [q, a.2.2.2 63 (by decide) (by decide)], fun x u v => (tx.2.2.2 x u v).2⟩
  refine ⟨zi _ (by omega), fun hr => ?_, fun hr => ?_⟩
  · refine H0.rem ?_
    intro μr c r
    refine ⟨by decide, by decide, ?_⟩
    have cr := hcr hr
    have r9 : gI μr 9 = gI μ0 9 := r.2.1 9 (by omega) (by omega)
    have r10 : gI μr 10 = gI μ0 10 := r.2.1 10 (by omega) (by omega)
    have c6 : XS 1 s μr := r.xs H0.2.2.2.2.1
    rw [r9, cr.1, gI_cIn (show (1 : Nat) ≠ 5 by decide), gI_sIs]
    have s' : ∀ i, i < 31 ∨ 74 ≤ i → lodS s R.2.1 R.2.2.2 (3 * R.2.1) i = s i := fun i g => by
      unfold lodS
      rw [if_neg (by omega), if_neg (by omega)]
    have s31 : lodS s R.2.1 R.2.2.2 (3 * R.2.1) 31 = R.2.1 := by
      unfold lodS
      rw [if_neg (by omega), if_pos rfl]
    have sw : ∀ i, 0 ≤ i → i < 3 * R.2.1 → lodS s R.2.1 R.2.2.2 (3 * R.2.1) (32 + i) = R.2.2.2 i := fun i x y => by
      unfold lodS
      rw [if_pos (by omega), show 32 + i - 32 = i by omega]
    have cc : cop f n s (lodS s R.2.1 R.2.2.2 (3 * R.2.1)) μ0 (cI (sI μr 1 1 R.2.1) 10 0 5 0 ((42 : Nat) : Int)) := by
      refine cop.set H0 c (fun i x y => s' i (by omega)) (fun i x y => s' i (by omega)) rfl rfl rfl (fun q x y z => by rw [gI_cIn y, gI_sIn x]) (by rw [gI_cIn (by decide), gI_sIs, s31]) (fun i x y => ?_) (fun i x y => ?_)
      · rw [s31] at y
        rw [gI_cI, if_pos rfl, if_pos ⟨by omega, by omega⟩, gI_sIn (by decide), r10, show 0 + (i - 0) = i by omega, sw i x y]
        exact cr.2.2 i x y
      · rw [gI_cIn (by decide), gI_sIn (by decide), s' _ (by omega)]
        exact c6.2.2.2.2.2.1 i x y
    have c11 : ∀ q, 54 ≤ q → q ≤ 64 → gI (cI (sI μr 1 1 R.2.1) 10 0 5 0 ((42 : Nat) : Int)) q = gI μ0 q := fun q x y => by
      rw [gI_cIn (by omega), gI_sIn (by omega)]
      exact r.2.1 q (by omega) (by omega)
    refine pX8_load (cc.pre H0) (T0 (by rw [c11 54 (by omega) (by omega)]) (c11 63 (by omega) (by omega))) hR (fun q => absurd hr q) (fun _ μ' m => ?_)
    refine ⟨zi _, zi _, rfl, H0.op cc m (wf_words hw (fun i x y => s' i (by omega)) (by rw [s31]; exact t1) (fun k x y => ?_) ?_) (wfP_c H0.1.2.2 (fun i x y => s' i (by omega)))⟩
    · rw [s31] at y
      rw [show 32 + 3 * k + 0 = 32 + (3 * k) by omega, show 32 + 3 * k + 1 = 32 + (3 * k + 1) by omega, show 32 + 3 * k + 2 = 32 + (3 * k + 2) by omega, sw _ (by omega) (by omega), sw _ (by omega) (by omega), sw _ (by omega) (by omega)]
      exact t4 k x y
    · rw [s' 74 (by omega), s' 75 (by omega), s' 76 (by omega), s' 77 (by omega), s' 78 (by omega), s' 79 (by omega), s' 80 (by omega), s' 81 (by omega)]
      exact hw.2.2.2.2
  · refine pX8_load H0.pre (T0 rfl rfl) hR (fun _ μ' m => ⟨zi _, zi _, rfl, s, hh, n, f, (H0.msc m).up (by omega)⟩) (fun q => absurd q hr)
