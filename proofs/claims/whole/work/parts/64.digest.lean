/-! digest, side by side -/
theorem addAll_one {d : Nat} {Q : Int64 → zMem → Prop} {μ : zMem} {p k : Nat} {len : Int} {g : Int → Int} {y : Int64} (hp : (gD μ)[p]? = some (9, k)) (hk : k ≤ 1000000) (l0 : 0 ≤ len) (l1 : len ≤ k) (hf : ∀ i, 0 ≤ i → i < len → gI μ p i = g i) (hQ : Q (fdN g len.toNat y) μ) : kX7_addAll d y p len μ Q := by
  refine bX7_addAll hp (by omega) ?_
  have loop : ∀ (n j : Nat), (j : Int) + n = len → zX7_addAll_6 d Q p len (fdN g j y) j μ := by
    intro n
    induction n with
    | zero =>
      intro j hj
      refine bX7_addAll_6 hp (by omega) ⟨zi _, zi _, fun _ => ?_, fun q => absurd (by omega) q⟩
      rw [show len.toNat = j by omega] at hQ
      exact hQ
    | succ n ih =>
      intro j hj
      refine bX7_addAll_6 hp (by omega) ⟨zi _, zi _, fun q => absurd q (by omega), fun _ => ⟨k, hp, zi _, fun q => absurd q (by omega), fun _ => ⟨by omega, by omega, ?_⟩⟩⟩
      rw [hf j (by omega) (by omega)]
      exact ih (j + 1) (by omega)
  exact loop len.toNat 0 (by omega)
theorem sim_digest {d e : Nat} {B : Int} {μ : zMem} (hB : B ≤ 2000000000) (h : SIM B μ) : kX7_digest (d + 3) μ (fun r μ1 => kX8_digest (e + 5) μ1 (fun r' μ2 => r = r' ∧ SIM B μ2)) := by
  obtain ⟨s, hh, n, f, H⟩ := h
  refine Cl_sh (fun sh => ?_)
  have d5 : (gD μ)[5]? = some (9, 42) := sh.2 5 _ dd_5
  have hw := H.1.2.1
  have hn := hw.2.2.1
  have hp := H.1.2.2
  have fin : ∀ (v : Int64) (ξ : zMem), v = DGV s → SM B s hh n f ξ → kX8_digest (e + 5) ξ (fun r' μ2 => v = r' ∧ SIM B μ2) := fun v ξ hv H1 => pX8_digest H1.1.1 H1.1.2.1 H1.1.2.2 (fun μ' m => ⟨hv, s, hh, n, f, H1.msc m⟩)
  have spans : ∀ (k j : Nat) (ξ : zMem), j + k = 36 → scf μ ξ → SM B s hh n f ξ → zX7_digest_33 (d + 2) (fun r μ1 => kX8_digest (e + 5) μ1 (fun r' μ2 => r = r' ∧ SIM B μ2)) (fdS s j (fdN (countV s) 12 23)) j ξ := by
    intro k
    induction k with
    | zero =>
      intro j ξ hj a H1
      have x1 := H1.2.2.2.2.1
      refine bX7_digest_33 ⟨zi _, fun _ => ?_, fun q => absurd (by omega) q⟩
      rw [show gI ξ 1 1 = s 31 from x1.2.2.2.1]
      refine addAll_one (g := fun i => s (32 + i)) (by rw [a.1]; exact d5) (by decide) (by omega) (by omega) (fun i u v => x1.2.2.2.2.1 i u (by omega)) ?_
      have eA : fdN (fun i => s (32 + i)) (s 31 * 3).toNat (fdS s j (fdN (countV s) 12 23)) = DGA s := by
        rw [show (s 31 * 3).toNat = (3 * s 31).toNat by omega, show j = 36 by omega]
        rfl
      rw [eA]
      rcases x1.2.2.2.2.2.2 with ⟨p, q⟩ | ⟨p, q, q', ly⟩
      · refine ⟨fun _ => fin _ ξ ?_ H1, fun q5 h5 => ?_⟩
        · unfold DGV
          rw [if_neg (by omega)]
        · rw [q] at h5
          cases h5
      · refine ⟨fun h5 => ?_, fun q5 h5 => ?_⟩
        · rw [q'] at h5
          cases h5
        · rw [q'] at h5
          have eq := Option.some.inj h5
          subst eq
          have hb := hp.2 p
          obtain ⟨a1, a2, a3, a4, a5, a6, a7, a8, a9, a10, a11, a12, a13⟩ := ly
          refine ⟨a1, a5, addAll_one (g := fun i => s (83 + i)) a2 (by decide) (by omega) (by omega) (fun i u v => a10 i u v) ⟨q, q', a1, a6, ?_⟩⟩
          rw [a8]
          refine addAll_one (g := fun i => s (88 + i)) a3 (by omega) (by omega) (by omega) (fun i u v => a11 i u (by omega)) ⟨q, q', a1, a7, ?_⟩
          rw [a9]
          refine addAll_one (g := fun i => s (186 + i)) a4 (by omega) (by omega) (by omega) (fun i u v => a12 i u (by omega)) (fin _ ξ ?_ H1)
          unfold DGV
          rw [if_pos p, show (s 84 * 7).toNat = (7 * s 84).toNat by omega, show (s 256 * 5).toNat = (5 * s 256).toNat by omega]
          rfl
    | succ k ih =>
      intro j ξ hj a H1
      refine bX7_digest_33 ⟨zi _, fun q => absurd q (by omega), fun _ => ?_⟩
      refine span_one hB (zi _) (zi _) (zi _) H1 ?_
      intro ζ b1 b2
      have H2 := H1.csc b1.csc b2
      refine span_one hB (zi _) (zi _) (zi _) H2 ?_
      intro χ c1 c2
      have H3 := H2.csc c1.csc c2
      rw [if_pos (show (0 ≤ (j : Int) ∧ (j : Int) ≤ 35) ∧ (1 ≤ (1 : Int) ∧ (1 : Int) ≤ 36 - j) ∧ ((0 : Int) ≤ 0 ∧ (0 : Int) ≤ 1) by omega), if_pos (show (0 ≤ (j : Int) ∧ (j : Int) ≤ 35) ∧ (1 ≤ (1 : Int) ∧ (1 : Int) ≤ 36 - j) ∧ ((0 : Int) ≤ 1 ∧ (1 : Int) ≤ 1) by omega), if_pos rfl, if_neg (show ¬ (1 : Int) = 0 by decide)]
      exact ih (j + 1) χ (by omega) (a.tr (b1.tr c1)) H3
  have counts : ∀ (k j : Nat), j + k = 12 → zX7_digest_6 (d + 2) (fun r μ1 => kX8_digest (e + 5) μ1 (fun r' μ2 => r = r' ∧ SIM B μ2)) (fdN (countV s) j 23) j μ := by
    intro k
    induction k with
    | zero =>
      intro j hj
      refine bX7_digest_6 ⟨zi _, fun _ => ?_, fun q => absurd (by omega) q⟩
      rw [show j = 12 by omega]
      exact spans 36 0 μ (by omega) scf.rf H
    | succ k ih =>
      intro j hj
      refine bX7_digest_6 ⟨zi _, fun q => absurd q (by omega), fun _ => ?_⟩
      refine count_one hw hp H.2.2.2.2.1 (zi _) (fun _ => ?_)
      exact ih (j + 1) (by omega)
  exact bX7_digest (counts 12 0 (by omega))
