/-! what is told of the present layout, side by side -/
theorem zA_of {μ : zMem} {p k : Nat} {i : Int} (h : (gD μ)[p]? = some (9, k)) (hk : k ≤ 2147483647) (a : 0 ≤ i) (b : i < k) : zA μ p i := ⟨k, h, hk, a, b⟩
theorem sim_layout {d e : Nat} {B x1 : Int} {μ : zMem} (h1 : zIn x1) (h : SIM B μ) : kX7_layout (d + 1) x1 μ (fun r μ1 => kX8_layout (e + 1) x1 μ1 (twin B r)) := by
  obtain ⟨s, hh, n, f, H⟩ := h
  have S : SIM B μ := ⟨s, hh, n, f, H⟩
  have hp := H.1.2.2
  have pr := H.2.2.2.2.1.2.2.2.2.2.2
  refine bX7_layout (cin h1 (zi _) (zi _) (fun g => pX8_layout H.1.1 hp h1 (fun _ => ⟨zi _, zi _, rfl, S⟩) (fun q => absurd q g) (fun q => absurd q g)) (fun g => ?_))
  rcases pr with ⟨p, q⟩ | ⟨p, q, q', ly⟩
  · refine ⟨fun _ => pX8_layout H.1.1 hp h1 (fun z => absurd g z) (fun _ _ => ⟨zi _, zi _, rfl, S⟩) (fun _ z => by omega), fun q5 h5 => ?_⟩
    rw [q] at h5
    cases h5
  · refine ⟨fun h5 => ?_, fun q5 h5 => ?_⟩
    · rw [q'] at h5
      cases h5
    · rw [q'] at h5
      have eq := Option.some.inj h5
      subst eq
      obtain ⟨a1, a2, a3, a4, a5, a6, a7, a8, a9, a10, a11, a12, a13⟩ := ly
      refine ⟨a1, a5, zA_of a2 (by decide) g.1 (by omega), ?_⟩
      rw [a10 x1 g.1 (by omega)]
      have z := (hp.2 p).2.2.1 x1 g.1 (by omega)
      exact pX8_layout H.1.1 hp h1 (fun z => absurd g z) (fun _ z => by omega) (fun _ _ => ⟨z, z, rfl, S⟩)
theorem sim_line {d e : Nat} {B x1 x2 : Int} {μ : zMem} (h1 : zIn x1) (h2 : zIn x2) (h : SIM B μ) : kX7_line (d + 1) x1 x2 μ (fun r μ1 => kX8_line (e + 1) x1 x2 μ1 (twin B r)) := by
  obtain ⟨s, hh, n, f, H⟩ := h
  have S : SIM B μ := ⟨s, hh, n, f, H⟩
  have hp := H.1.2.2
  have pr := H.2.2.2.2.1.2.2.2.2.2.2
  refine bX7_line ?_
  rcases pr with ⟨p, q⟩ | ⟨p, q, q', ly⟩
  · refine ⟨fun _ => pX8_line H.1.1 hp h1 h2 (fun _ => ⟨zi _, zi _, rfl, S⟩) (fun z => by omega) (fun z => by omega) (fun z => by omega), fun q5 h5 => ?_⟩
    rw [q] at h5
    cases h5
  · refine ⟨fun h5 => ?_, fun q5 h5 => ?_⟩
    · rw [q'] at h5
      cases h5
    · rw [q'] at h5
      have eq := Option.some.inj h5
      subst eq
      have hb := hp.2 p
      obtain ⟨a1, a2, a3, a4, a5, a6, a7, a8, a9, a10, a11, a12, a13⟩ := ly
      refine ⟨a1, ?_⟩
      rw [a8]
      refine cin h1 (zi _) (zi _) (fun g => pX8_line H.1.1 hp h1 h2 (fun z => by omega) (fun _ _ => ⟨zi _, zi _, rfl, S⟩) (fun _ z => absurd z g) (fun _ z => absurd z g)) (fun g => ?_)
      refine cin h2 (zi _) (zi _) (fun g2 => pX8_line H.1.1 hp h1 h2 (fun z => by omega) (fun _ z => absurd g z) (fun _ _ _ => ⟨zi _, zi _, rfl, S⟩) (fun _ _ z => absurd z g2)) (fun g2 => ?_)
      refine ⟨q, q', a1, a6, zA_of a3 (by omega) (by omega) (by omega), ?_⟩
      rw [a11 _ (by omega) (by omega), show 88 + (x1 * 7 + x2) = 88 + 7 * x1 + x2 by omega]
      have z := hb.2.2.2.1 (7 * x1 + x2) (by omega) (by omega)
      rw [show 88 + (7 * x1 + x2) = 88 + 7 * x1 + x2 by omega] at z
      exact pX8_line H.1.1 hp h1 h2 (fun z => by omega) (fun _ z => absurd g z) (fun _ _ z => absurd g2 z) (fun _ _ _ => ⟨z, z, rfl, S⟩)
theorem sim_placed {d e : Nat} {B x1 x2 : Int} {μ : zMem} (h1 : zIn x1) (h2 : zIn x2) (h : SIM B μ) : kX7_placed (d + 1) x1 x2 μ (fun r μ1 => kX8_placed (e + 1) x1 x2 μ1 (twin B r)) := by
  obtain ⟨s, hh, n, f, H⟩ := h
  have S : SIM B μ := ⟨s, hh, n, f, H⟩
  have hp := H.1.2.2
  have pr := H.2.2.2.2.1.2.2.2.2.2.2
  refine bX7_placed ?_
  rcases pr with ⟨p, q⟩ | ⟨p, q, q', ly⟩
  · refine ⟨fun _ => pX8_placed H.1.1 hp h1 h2 (fun _ => ⟨zi _, zi _, rfl, S⟩) (fun z => by omega) (fun z => by omega) (fun z => by omega), fun q5 h5 => ?_⟩
    rw [q] at h5
    cases h5
  · refine ⟨fun h5 => ?_, fun q5 h5 => ?_⟩
    · rw [q'] at h5
      cases h5
    · rw [q'] at h5
      have eq := Option.some.inj h5
      subst eq
      have hb := hp.2 p
      obtain ⟨a1, a2, a3, a4, a5, a6, a7, a8, a9, a10, a11, a12, a13⟩ := ly
      refine ⟨a1, ?_⟩
      rw [a9]
      refine cin h1 (zi _) (zi _) (fun g => pX8_placed H.1.1 hp h1 h2 (fun z => by omega) (fun _ _ => ⟨zi _, zi _, rfl, S⟩) (fun _ z => absurd z g) (fun _ z => absurd z g)) (fun g => ?_)
      refine cin h2 (zi _) (zi _) (fun g2 => pX8_placed H.1.1 hp h1 h2 (fun z => by omega) (fun _ z => absurd g z) (fun _ _ _ => ⟨zi _, zi _, rfl, S⟩) (fun _ _ z => absurd z g2)) (fun g2 => ?_)
      refine ⟨q, q', a1, a7, zA_of a4 (by omega) (by omega) (by omega), ?_⟩
      rw [a12 _ (by omega) (by omega), show 186 + (x1 * 5 + x2) = 186 + 5 * x1 + x2 by omega]
      have z := hb.2.2.2.2 (5 * x1 + x2) (by omega) (by omega)
      rw [show 186 + (5 * x1 + x2) = 186 + 5 * x1 + x2 by omega] at z
      exact pX8_placed H.1.1 hp h1 h2 (fun z => by omega) (fun _ z => absurd g z) (fun _ _ z => absurd g2 z) (fun _ _ _ => ⟨z, z, rfl, S⟩)
