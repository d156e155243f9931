abbrev zL_law_16 (S : zS) (X : zX) (d : Nat) (Q : Int → zMem → Prop) (p1 p2 : Nat) (μ : zMem) (k n : Nat) : Prop := Z S X mL_law (d + 1) 600000 7302250 (qI Q) 16 [some (.float 0), some (.ref p1), some (.ref p2), none] [] μ k n
theorem bL_law {S : zS} {X : zX} {d : Nat} {Q : Int → zMem → Prop} {μ : zMem}  {sL : Nat} {sf : Nat → Int32} (hX : X = some (sL, sf)) (hsL : sL ≤ 2147483647) (P : (0 + 1 ≤ 600000) ∧ ((0 + 7 ≤ 7302250) ∧ (∀ q1 : Nat, q1 = (gD μ).length → (((0 + 1) + 53 ≤ 600000) ∧ (((0 + 7) + 4449 ≤ 7302250) ∧ (kX7_init S d q1 (aD μ 7 0) (fun μ7 : zMem => (((0 + 1) + 53) + 1 ≤ 600000) ∧ ((((0 + 7) + 4449) + 20 ≤ 7302250) ∧ (∀ q8 : Nat, q8 = (gD μ7).length → (((((0 + 1) + 53) + 1) + 10 ≤ 600000) ∧ (((((0 + 7) + 4449) + 20) + 4257 ≤ 7302250) ∧ (kX8_init S d q8 (aD μ7 8 0) (fun μ14 : zMem => zL_law_16 S X d Q q1 q8 μ14 ((((0 + 1) + 53) + 1) + 10) ((((0 + 7) + 4449) + 20) + 4257)))))))))))))) : Z S X mL_law (d + 1) 600000 7302250 (qI Q) 0 [some (.float 0), none, none, none] [] μ 0 0 := by
  obtain ⟨q1, h2⟩ : ∃ q : Nat, q = (gD μ).length := ⟨_, rfl⟩
  have h3 := P.1
  have P := P.2
  have h4 := P.1
  have P := P.2
  refine Z_new (c0 := 7) (pc' := 3) dL_law_0 rfl (by decide) h3 h4 cL_7 n_7 u_7 ?_
  rw [← h2]
  have P := P q1 h2
  refine Z_dup (pc' := 4) dL_law_3 rfl rfl ?_
  have h5 := P.1
  have P := P.2
  have h6 := P.1
  have P := P.2
  refine Z_callI (M' := mX7_init) (pc' := 7) (st := [.ref q1]) [] dL_law_4 rfl iX7_init lL_9 rfl (Nat.le_of_ble_eq_true rfl) h5 h6 ?_
  refine Cl_mono P ?_
  rintro _ μ7 ⟨rfl, P⟩
  show Z S X mL_law (d + 1) 600000 7302250 (qI Q) 7 [some (.float 0), none, none, none] [.ref q1] μ7 ((0 + 1) + 53) ((0 + 7) + 4449)
  refine Z_astore_n (pc' := 8) (lo' := [some (.float 0), some (.ref q1), none, none]) dL_law_7 rfl (by decide) rfl ?_
  obtain ⟨q8, h9⟩ : ∃ q : Nat, q = (gD μ7).length := ⟨_, rfl⟩
  have h10 := P.1
  have P := P.2
  have h11 := P.1
  have P := P.2
  refine Z_new (c0 := 8) (pc' := 11) dL_law_8 rfl (by decide) h10 h11 cL_10 n_8 u_8 ?_
  rw [← h9]
  have P := P q8 h9
  refine Z_dup (pc' := 12) dL_law_11 rfl rfl ?_
  have h12 := P.1
  have P := P.2
  have h13 := P.1
  have P := P.2
  refine Z_callI (M' := mX8_init) (pc' := 15) (st := [.ref q8]) [] dL_law_12 rfl iX8_init lL_12 rfl (Nat.le_of_ble_eq_true rfl) h12 h13 ?_
  refine Cl_mono P ?_
  rintro _ μ14 ⟨rfl, P⟩
  show Z S X mL_law (d + 1) 600000 7302250 (qI Q) 15 [some (.float 0), some (.ref q1), none, none] [.ref q8] μ14 ((((0 + 1) + 53) + 1) + 10) ((((0 + 7) + 4449) + 20) + 4257)
  refine Z_astore_n (pc' := 16) (lo' := [some (.float 0), some (.ref q1), some (.ref q8), none]) dL_law_15 rfl (by decide) rfl ?_
  exact P
theorem init65 {d p0 qh k n : Nat} {Q : zMem → Prop} {T : zTB} {μ : zMem} {j : Int} (hm : isM T μ) (hp : T.1[p0]? = some (7, 0)) (hr : lkR T.2.1 p0 1 = some qh) (hq : T.1[qh]? = some (11, 4)) (j0 : 0 ≤ j) (j1 : j < 4) (hk : k + 6 ≤ 53) (hn : n + 125 ≤ 4449) (hQ : ∀ μ', isM (hs5 qh j T) μ' → zX7_init_65 S0 (d + 2) Q p0 (j + 1) μ' (k + 1 + 5) (n + 5 + 120)) : zX7_init_65 S0 (d + 2) Q p0 j μ k n := by
  refine bX7_init_65 ⟨zi _, fun h => absurd h (by omega), fun _ => ⟨by rw [hm.1]; exact hp, qh, by rw [hm.2.2.2.1]; exact hr, by omega, by omega, ?_⟩⟩
  intro q8 h8
  have e8 : q8 = T.1.length := h8.trans (congrArg List.length hm.1)
  subst e8
  have m1 := hm.nA 5 0
  refine ⟨by omega, by omega, pX5_init m1 (ta_new 5 0 T) ?_⟩
  intro μ' hw
  have H1 : (eX5 T.1.length (ta 5 0 T)).1[qh]? = some (11, 4) := eX5_pre (app_l hq)
  exact ⟨j0, j1, by rw [hw.1]; exact H1, rfl, by rw [hw.1]; exact eX5_pre (ta_new 5 0 T), hQ _ (hw.nR j (some T.1.length) H1)⟩
def T0 : zTB := eX7a 0 (ta 7 0 ([], [], []))
def T1 : zTB := hs5 7 0 T0
def T2 : zTB := hs5 7 1 T1
def T3 : zTB := hs5 7 2 T2
def T4 : zTB := hs5 7 3 T3
def T5 : zTB := eX8 54 (ta 8 0 T4)
theorem T5_D : T5.1 = ssD := by decide +kernel
theorem T5_R : ∀ t ∈ ssT, lkR T5.2.1 t.1 t.2.1 = some t.2.2 := by decide +kernel
theorem T5_b : ∀ t ∈ ssT, t.1 < 65 := by decide +kernel
theorem T5_15 : ∀ t ∈ T5.2.2, t.1 ≠ 15 := by decide +kernel
theorem T5_54 : ∀ t ∈ T5.2.2, t.1 ≠ 54 := by decide +kernel
theorem T5_v : lkI T5.2.2 55 0 = 0 ∧ lkI T5.2.2 55 31 = 0 ∧ lkI T5.2.2 55 74 = 1 ∧ lkI T5.2.2 55 75 = 1 ∧ lkI T5.2.2 55 76 = 1 ∧ lkI T5.2.2 55 77 = 1 ∧ lkI T5.2.2 55 78 = 0 ∧ lkI T5.2.2 55 79 = 1 ∧ lkI T5.2.2 55 80 = 1 ∧ lkI T5.2.2 55 81 = 9 ∧ lkI T5.2.2 55 82 = 0 := by decide +kernel
theorem T5_6 : lkI T5.2.2 6 0 = 1 ∧ lkI T5.2.2 6 1 = 1 ∧ lkI T5.2.2 6 2 = 1 ∧ lkI T5.2.2 6 3 = 1 ∧ lkI T5.2.2 6 4 = 0 ∧ lkI T5.2.2 6 5 = 1 ∧ lkI T5.2.2 6 6 = 1 ∧ lkI T5.2.2 6 7 = 9 := by decide +kernel
theorem T5_x : lkI T5.2.2 0 2 = 0 ∧ lkI T5.2.2 0 4 = 0 ∧ lkI T5.2.2 1 1 = 0 ∧ lkI T5.2.2 2 0 = 0 ∧ lkI T5.2.2 2 1 = 1 ∧ lkR T5.2.1 1 4 = none := by decide +kernel
theorem T5_7 : lkR T5.2.1 7 0 = some 30 ∧ lkR T5.2.1 7 1 = some 36 ∧ lkR T5.2.1 7 2 = some 42 ∧ lkR T5.2.1 7 3 = some 48 := by decide +kernel
theorem start_sh {μ : zMem} (hm : isM T5 μ) : zSh SS μ := by
  have hD : gD μ = ssD := hm.1.trans T5_D
  refine ⟨fun p k q h => ?_, fun p x h => ?_⟩
  · have h' : (ssT.find? (fun t => t.1 == p && t.2.1 == k)).map (fun t => t.2.2) = some q := h
    rw [Option.map_eq_some_iff] at h'
    obtain ⟨t, ht, hq⟩ := h'
    have hmem := List.mem_of_find?_eq_some ht
    have hpk := List.find?_some ht
    simp only [Bool.and_eq_true, beq_iff_eq] at hpk
    have h1 := T5_R t hmem
    have h2 := T5_b t hmem
    refine ⟨?_, ?_⟩
    · show p < (gD μ).length
      rw [hD, ← hpk.1]
      exact h2
    · rw [hm.2.2.2.1, ← hpk.1, ← hpk.2, h1, hq]
  · show (gD μ)[p]? = some x
    rw [hD]
    exact h
def s0 : Int → Int := fun i => lkI T5.2.2 55 i
theorem start_sim {μ : zMem} (hm : isM T5 μ) : SIM 1 μ := by
  obtain ⟨v0, v31, v74, v75, v76, v77, v78, v79, v80, v81, v82⟩ := T5_v
  obtain ⟨a0, a1, a2, a3, a4, a5, a6, a7⟩ := T5_6
  obtain ⟨x1, x2, x3, x4, x5, x6⟩ := T5_x
  obtain ⟨y0, y1, y2, y3⟩ := T5_7
  have e0 : s0 0 = 0 := v0
  have e31 : s0 31 = 0 := v31
  have e82 : s0 82 = 0 := v82
  have hI : gI μ = lkI T5.2.2 := hm.2.1
  have hR : gR μ = lkR T5.2.1 := hm.2.2.2.1
  have z15 : ∀ i, gI μ 15 i = 0 := fun i => by rw [hI]; exact lkI_no _ 15 T5_15 i
  have z54 : ∀ i, gI μ 54 i = 0 := fun i => by rw [hI]; exact lkI_no _ 54 T5_54 i
  have e21 : gI μ 2 1 = 1 := by rw [hI]; exact x5
  refine ⟨s0, fun _ _ => 0, 0, fun j => (30 + 6 * j).toNat, ⟨fun i _ _ => by rw [hI]; rfl, ?_, ?_⟩, ⟨by omega, by omega, z54 1, by rw [hI]; exact x1⟩, fun j a c => by omega, ⟨fun j a c => ?_, fun i j a c e f g => by dsimp only; omega⟩, ⟨by rw [hI, e0]; exact x4, fun i a c => by rw [e0] at c; omega, fun y hy => ?_, by rw [hI, e31]; exact x3, fun i a c => by rw [e31] at c; omega, fun i a c => ?_, Or.inl ⟨e82, by rw [hR]; exact x6⟩⟩, fun rows a c => ?_, by rw [e21]; omega, ?_⟩
  · refine ⟨by rw [e0]; omega, fun k a c => by rw [e0] at c; omega, by rw [e31]; omega, fun k a c => by rw [e31] at c; omega, ?_, ?_, ?_, ?_, ?_, ?_, ?_, ?_⟩
    · rw [show s0 74 = 1 from v74]; omega
    · rw [show s0 75 = 1 from v75]; omega
    · rw [show s0 76 = 1 from v76]; omega
    · rw [show s0 77 = 1 from v77]; omega
    · rw [show s0 78 = 0 from v78]; omega
    · rw [show s0 79 = 1 from v79]; omega
    · rw [show s0 80 = 1 from v80]; omega
    · rw [show s0 81 = 9 from v81]; omega
  · exact ⟨Or.inl e82, fun h => by rw [e82] at h; omega⟩
  · have : j = 0 ∨ j = 1 ∨ j = 2 ∨ j = 3 := by omega
    rcases this with h | h | h | h <;> subst h
    · exact ⟨by rw [hR]; exact y0, Or.inl rfl⟩
    · exact ⟨by rw [hR]; exact y1, Or.inr (Or.inl rfl)⟩
    · exact ⟨by rw [hR]; exact y2, Or.inr (Or.inr (Or.inl rfl))⟩
    · exact ⟨by rw [hR]; exact y3, Or.inr (Or.inr (Or.inr rfl))⟩
  · intro x hx
    have hf : freeB s0 (x : Int) (y : Int) = false := by
      unfold freeB
      rw [e0]
      rfl
    have hg : gL μ (1 + 3) (y : Int) = 0 := by rw [hm.2.2.1]
    rw [hg, bit_0]
    show false = (decide (x < 48) && freeB s0 (x : Int) (y : Int))
    rw [hf, Bool.and_false]
  · have : i = 0 ∨ i = 1 ∨ i = 2 ∨ i = 3 ∨ i = 4 ∨ i = 5 ∨ i = 6 ∨ i = 7 := by omega
    rw [hI]
    rcases this with h | h | h | h | h | h | h | h <;> subst h
    · exact a0.trans v74.symm
    · exact a1.trans v75.symm
    · exact a2.trans v76.symm
    · exact a3.trans v77.symm
    · exact a4.trans v78.symm
    · exact a5.trans v79.symm
    · exact a6.trans v80.symm
    · exact a7.trans v81.symm
  · rw [z15, e21]
    exact ⟨by omega, by omega, fun q => by omega⟩
  · unfold TXC
    rw [z54]
    exact ⟨by rw [hI]; exact x2, by omega, by omega, fun x a c => by omega⟩
theorem zSh_S0 (μ : zMem) : zSh S0 μ := ⟨fun p k q h => (nomatch h), fun p x h => by
  have h' : ([] : List (Nat × Nat))[p]? = some x := h
  simp at h'⟩
theorem Z_up {X : zX} {M : zMt} {d mc ms pc k n : Nat} {Q : Option Value → zMem → Prop} {lo : List (Option Value)} {st : List Value} {μ : zMem} (h : zSh SS μ) (K : Z SS X M d mc ms Q pc lo st μ k n) : Z S0 X M d mc ms Q pc lo st μ k n := by
  intro p l e R s m args below meth c b bs G QF H locs ls hC h0 hR hS hL
  obtain ⟨c1, c2, c3, c4, c5, c6, c7, c8, c9, c10, c11⟩ := hC
  exact K p l e R s m args below meth c b bs G QF H locs ls ⟨c1, c2, c3, c4, c5, c6, c7, c8, c9, c10, fun v μ' H' locs' ls' pc' op hd ho _ => c11 v μ' H' locs' ls' pc' op hd ho (zSh_S0 μ')⟩ h hR hS hL
def μ0 : zMem := ([], fun _ _ => 0, fun _ _ => 0, fun _ _ => none)
theorem isM_0 : isM ([], [], []) μ0 := ⟨rfl, rfl, rfl, rfl, fun t ht => by simp at ht, fun t ht => by simp at ht⟩
/-- the law, from its entry on -/
theorem law_all {X : zX} {sL : Nat} {sf : Nat → Int32} (hX : X = some (sL, sf)) (hL : sL ≤ 3072) : Z S0 X mL_law 41 600000 7302250 (qI (fun r _ => r = 1)) 0 [some (.float 0), none, none, none] [] μ0 0 0 := by
  have hsL : sL ≤ 2147483647 := by omega
  refine bL_law (d := 40) hX hsL ⟨by decide, by decide, ?_⟩
  intro q1 h1
  have e1 : q1 = 0 := h1
  subst e1
  refine ⟨by decide, by decide, ?_⟩
  refine pX7_init (d := 37) (T := ta 7 0 ([], [], [])) (isM_0.nA 7 0) (by decide +kernel) ?_
  intro μ1 m1
  have m1 : isM T0 μ1 := m1
  refine init65 (d := 37) (qh := 7) m1 (by decide +kernel) (by decide +kernel) (by decide +kernel) (by decide) (by decide) (by decide) (by decide) ?_
  intro μ2 m2
  have m2 : isM T1 μ2 := m2
  refine init65 (d := 37) (qh := 7) m2 (by decide +kernel) (by decide +kernel) (by decide +kernel) (by decide) (by decide) (by decide) (by decide) ?_
  intro μ3 m3
  have m3 : isM T2 μ3 := m3
  refine init65 (d := 37) (qh := 7) m3 (by decide +kernel) (by decide +kernel) (by decide +kernel) (by decide) (by decide) (by decide) (by decide) ?_
  intro μ4 m4
  have m4 : isM T3 μ4 := m4
  refine init65 (d := 37) (qh := 7) m4 (by decide +kernel) (by decide +kernel) (by decide +kernel) (by decide) (by decide) (by decide) (by decide) ?_
  intro μ5 m5
  have m5 : isM T4 μ5 := m5
  refine bX7_init_65 ⟨zi _, fun _ => ⟨by decide, by decide, by decide, by decide, ?_⟩, fun h => absurd (by decide) h⟩
  intro q8 h8
  have e8 : q8 = 54 := by
    rw [h8, m5.1]
    decide +kernel
  subst e8
  refine ⟨by decide, by decide, ?_⟩
  refine pX8_init (d := 39) (T := ta 8 0 T4) (m5.nA 8 0) (by decide +kernel) ?_
  intro μ6 m6
  have m6 : isM T5 μ6 := m6
  refine Z_iconst (pc' := 17) dL_law_16 rfl ?_
  refine Z_istore_n (pc' := 18) (lo' := [some (.float 0), some (.ref 0), some (.ref 54), some (vi 0)]) dL_law_17 rfl (by decide) rfl ?_
  refine Z_up (start_sh m6) ?_
  exact law_loop hX hL (fun _ => rfl) 512 0 1 μ6 _ _ (start_sim m6) (by omega) (by omega) (by omega) (by omega) (by omega) (by omega)
