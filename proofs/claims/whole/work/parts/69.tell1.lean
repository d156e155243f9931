/-! the lines of the best layout are told, from the first on -/
theorem desc1 {d q N k n : Nat} {Q : Nat → zMem → Prop} {s : Int → Int} {b : Int} (hw : wf s) (b0 : 1 ≤ b) (b1 : b ≤ 12) (hq : 65 ≤ q) (hN' : N ≤ 1000) (hk : k ≤ 4) (hn178 : n ≤ 178) :
    ∀ (es : List Int) (l first row pf lg : Int) (C U V O : Int → Int) (μ : zMem), okAll s b es first row pf C U → PI s l first pf lg C U V O → SP s b μ → (gD μ)[27]? = some (9, 14) → (gD μ)[q]? = some (2, 0) → (gD μ)[q + 2]? = some (9, N) → 7 * (l + (es.length : Int)) ≤ N → gR μ q 3 = some (q + 2) →
    (∀ k : Nat, k ≤ es.length → gI μ 24 (l + k) = lnS es first k) → (0 < l → gI μ 24 (l - 1) = pf) → gI μ 11 16 = l + (es.length : Int) → (∀ i, pf ≤ i → i < first → gI μ 25 i = C i) → (∀ i, pf < i → i < first → gI μ 26 i = C (i - 1) + wd s b (i - 1)) → (∀ i, pf < i → i < first → gI μ 27 i = U i) → 0 ≤ row → row ≤ 41 →
    (∀ μ', dsf q μ μ' → gI μ' 28 = gI μ 28 → gI μ' (q + 1) = gI μ (q + 1) → gI μ' (q + 3) = gI μ (q + 3) → (∀ i, i < first → gI μ' 25 i = gI μ 25 i ∧ gI μ' 26 i = gI μ 26 i ∧ gI μ' 27 i = gI μ 27 i) →
      (∀ i, first ≤ i → i < s 31 → gI μ' 25 i = FC s b es first row C i ∧ (i ≠ lnF es first i → gI μ' 26 i = FC s b es first row C (i - 1) + wd s b (i - 1) ∧ gI μ' 27 i = FU s b es first row pf C U i)) →
      (∀ x, x < 7 * l → gI μ' (q + 2) x = gI μ (q + 2) x) → (∀ x, 7 * l ≤ x → x < 7 * (l + (es.length : Int)) → gI μ' (q + 2) x = FV s b es l first row V x) →
      zX4_describeBest_114 (d + 2) Q b q (FR s b es first row) (FG s b es first row pf lg C U) (l + (es.length : Int) - 1) μ' k n) →
    zX4_describeBest_48 (d + 2) Q b q row lg l μ k n := by
  have hn := hw.2.2.1
  have hlim := hw.2.2.2.2.2.2.2.2.2.2.2
  have hlead := hw.2.2.2.2.2.2.2.2.2.1
  intro es
  induction es with
  | nil =>
    intro l first row pf lg C U V O μ ok hp hs d27 d0 d2 hN hr h24 h24' h16 h25 h26 h27 r0 r1 hQ
    have ef : first = s 31 := ok
    obtain ⟨p1, p2, p3, p4, p5, p6, p7, p8, p9, p10, p11⟩ := hp
    rw [List.length_nil] at h16
    refine bX4_describeBest_48 ⟨zi _, by rw [h16]; exact zi _, fun _ => ?_, fun h => absurd (by rw [h16]; omega) h⟩
    rw [h16]
    exact hQ μ dsf.rf rfl rfl rfl (fun i _ => ⟨rfl, rfl, rfl⟩) (fun i a c => by omega) (fun x _ => rfl) (fun x a c => by rw [List.length_nil] at c; omega)
  | cons e es ih =>
    intro l first row pf lg C U V O μ ok hp hs d27 d0 d2 hN hr h24 h24' h16 h25 h26 h27 r0 r1 hQ
    have hinc := okAll_inc _ _ _ _ _ _ ok
    have hp' := hp
    obtain ⟨p1, p2, p3, p4, p5, p6, p7, p8, p9, p10, p11⟩ := hp
    obtain ⟨fe, e1, okl, okr⟩ := ok
    have hfit := (okL_iff.mp okl).1
    have hf1 := hfit.1
    have ilen := inc_le (e :: es) first hinc
    have lb := lH_bd hw b0 b1 (show 0 ≤ first by omega) fe e1
    rw [List.length_cons] at h16 hN ilen
    have a24 : gI μ 24 l = first := by
      have := h24 0 (by omega)
      rw [lnS_0, show l + ((0 : Nat) : Int) = l by omega] at this
      exact this
    have c24 : gI μ 24 (l + 1) = e := by
      have := h24 1 (by rw [List.length_cons]; omega)
      rw [lnS_s, lnS_0] at this
      exact this
    refine bX4_describeBest_48 ⟨zi _, by rw [h16]; exact zi _, fun h => absurd h (by rw [h16]; omega), fun _ => ⟨hk, hn178, ?_⟩⟩
    refine pX4_describeLine (s := s) (b := b) (first := first) (k := e) hw b0 b1 hs p1 (by omega) (by omega) fe e1 r0 (by omega) hfit a24 c24 hq d0 d2 (by omega) hN' hr ?_
    intro ξ g1 g2 g3 g4 g5 g6 g7
    have z24 : gI ξ 24 = gI μ 24 := g2 24 (by decide) (by decide) (by omega)
    have bcC := lC_bd (C := C) hw b0 b1 (show 0 ≤ first by omega) e1 hfit.2 (by omega) p9
    refine pX4_chainFromAbove (C := lC s b first e row C) (U := U) (pf := pf) (first := first) (k := e) (row := row) hw b0 b1 (by rw [g1.1]; exact d27) p1 (by omega) p2 fe e1 p3 p4 (by rw [z24]; exact a24) (by rw [z24]; exact c24) (fun h => by rw [z24]; exact h24' h) p6 (fun i a a' => ?_) (fun i a a' a'' => ?_) (fun i a a' => by rw [g2 27 (by decide) (by decide) (by omega)]; exact h27 i a a') p8 bcC ?_
    · by_cases g : first ≤ i
      · exact g4 C i g a'
      · rw [(g3 i (by omega)).1, h25 i a (by omega)]
        unfold lC
        rw [if_neg g]
    · by_cases g : first < i
      · exact g5 C i g a'
      · rw [(g3 i (by omega)).2, h26 i a (by omega)]
        unfold lC
        rw [if_neg (by omega)]
    intro χ k1 k2 k3 k4
    have lgb := Lg_bd (U := lU s b (lC s b first e row C) U pf first) (first := first) (l := l + 1) (by omega) (e - first - 1).toNat (fun i hi' => (lU_bd (k := e) p1 p3 p4 p8 (first + 1 + i) (by omega) (by omega)).2)
    have dx : dsf q μ χ := g1.tr ⟨k1.1, k1.2.1, k1.2.2.1, fun j a _ _ _ => k2 j (by omega)⟩
    have x24 : gI χ 24 = gI μ 24 := (k2 24 (by decide)).trans z24
    have hsx := dx.sp hq hs
    rw [x24, a24, c24]
    refine ⟨zi _, zi _, p1, by omega, by omega, by omega, ?_⟩
    refine pX4_rowBehind hw hsx.1 hsx.2.2.2.1 (by omega) fe e1 ?_
    have x11 : gI χ 11 = gI μ 11 := dx.2.2.2 11 (by omega) (by omega) (by omega) (by omega)
    have xq2 : gI χ (q + 2) = gI ξ (q + 2) := k2 (q + 2) (by omega)
    have hpn := PI_step (V := V) (O := O) hp' hw b0 b1 fe e1 okl
    refine ih (l + 1) e (row + (lH s b first e + s 79)) first _ (lC s b first e row C) (lU s b (lC s b first e row C) U pf first) (lV s b l first e row V) (lO l first O) χ okr hpn hsx (by rw [dx.1]; exact d27) (by rw [dx.1]; exact d0) (by rw [dx.1]; exact d2) (by omega) (by rw [dx.2.1]; exact hr) (fun k hk' => ?_) (fun _ => ?_) (by rw [x11, h16]; omega) (fun i a c => ?_) (fun i a c => ?_) (fun i a c => ?_) (by omega) (by omega) ?_
    · have := h24 (k + 1) (by rw [List.length_cons]; omega)
      rw [lnS_s] at this
      rw [x24, show l + 1 + (k : Int) = l + ((k + 1 : Nat) : Int) by omega]
      exact this
    · rw [x24, show l + 1 - 1 = l by omega]
      exact a24
    · rw [k2 25 (by decide)]
      exact g4 C i a c
    · rw [k2 26 (by decide)]
      exact g5 C i a c
    · exact k4 i a c
    intro μ' m1 m2 m3 m4 m5 m6 m7 m8
    have key := hQ μ' (dx.tr m1) (m2.trans ((k2 28 (by decide)).trans (g2 28 (by decide) (by decide) (by omega)))) (m3.trans ((k2 (q + 1) (by omega)).trans (g2 (q + 1) (by omega) (by omega) (by omega)))) (m4.trans ((k2 (q + 3) (by omega)).trans (g2 (q + 3) (by omega) (by omega) (by omega)))) (fun i a => ?_) (fun i a c => ?_) (fun x a => ?_) (fun x a c => ?_)
    · rw [List.length_cons, show l + ((es.length + 1 : Nat) : Int) - 1 = l + 1 + (es.length : Int) - 1 by omega] at key
      exact key
    · have h := m5 i (by omega)
      rw [h.1, h.2.1, h.2.2, k2 25 (by decide), k2 26 (by decide), k3 i (by omega), g2 27 (by decide) (by decide) (by omega)]
      exact ⟨(g3 i a).1, (g3 i a).2, rfl⟩
    · show gI μ' 25 i = FC s b es e (row + (lH s b first e + s 79)) (lC s b first e row C) i ∧ (i ≠ lnF (e :: es) first i → gI μ' 26 i = FC s b es e (row + (lH s b first e + s 79)) (lC s b first e row C) (i - 1) + wd s b (i - 1) ∧ gI μ' 27 i = FU s b es e (row + (lH s b first e + s 79)) first (lC s b first e row C) (lU s b (lC s b first e row C) U pf first) i)
      unfold lnF
      by_cases g : i < e
      · have h := m5 i g
        rw [if_pos g, h.1, h.2.1, h.2.2, FC_lo es e _ _ i hinc.2 g, FC_lo es e _ _ (i - 1) hinc.2 (by omega), FU_lo es e _ _ _ _ i hinc.2 g, k2 25 (by decide), k2 26 (by decide)]
        exact ⟨g4 C i a g, fun z => ⟨g5 C i (by omega) g, k4 i (by omega) g⟩⟩
      · rw [if_neg g]
        exact m6 i (by omega) c
    · rw [m7 x (by omega), xq2]
      exact g6 x a
    · show gI μ' (q + 2) x = FV s b es (l + 1) e (row + (lH s b first e + s 79)) (lV s b l first e row V) x
      rw [List.length_cons] at c
      by_cases g : x < 7 * (l + 1)
      · rw [m7 x g, xq2, FV_lo es e (l + 1) _ _ x g]
        exact g7 V x a (by omega)
      · exact m8 x (by omega) (by omega)
