/-! the best layout is told -/
theorem gI_aDn {μ : zMem} {k n q : Nat} (h : q ≠ (gD μ).length) : gI (aD μ k n) q = gI μ q := by
  show zf μ.2.1 μ.1.length (fun _ => 0) q = μ.2.1 q
  unfold zf
  exact if_neg h
theorem gL_aDn {μ : zMem} {k n q : Nat} (h : q ≠ (gD μ).length) : gL (aD μ k n) q = gL μ q := by
  show zf μ.2.2.1 μ.1.length (fun _ => 0) q = μ.2.2.1 q
  unfold zf
  exact if_neg h
theorem gR_aDn {μ : zMem} {k n q : Nat} (h : q ≠ (gD μ).length) : gR (aD μ k n) q = gR μ q := by
  show zf μ.2.2.2 μ.1.length (fun _ => none) q = μ.2.2.2 q
  unfold zf
  exact if_neg h
theorem gD_aD (μ : zMem) (k n : Nat) : gD (aD μ k n) = gD μ ++ [(k, n)] := rfl
theorem app_l {α : Type} {l l' : List α} {i : Nat} {v : α} (h : l[i]? = some v) : (l ++ l')[i]? = some v := by
  have := (List.getElem?_eq_some_iff.mp h).1
  rw [List.getElem?_append_left this]
  exact h
theorem aDR {μ : zMem} {p0 k n : Nat} {i : Int} {v : Option Nat} : gD (sR (aD μ k n) p0 i v) = gD μ ++ [(k, n)] ∧ (∀ j, j < (gD μ).length → gI (sR (aD μ k n) p0 i v) j = gI μ j ∧ gL (sR (aD μ k n) p0 i v) j = gL μ j) ∧ ∀ j i', j < (gD μ).length → gR (sR (aD μ k n) p0 i v) j i' = if j = p0 ∧ i' = i then v else gR μ j i' := by
  refine ⟨rfl, fun j hj => ⟨?_, ?_⟩, fun j i' hj => ?_⟩
  · rw [gI_sR, gI_aDn (by omega)]
  · rw [gL_sR, gL_aDn (by omega)]
  · rw [gR_sR, gR_aDn (by omega)]
theorem ss_no {p : Nat} (h : 65 ≤ p) (i : Nat) : SS.1 p i = none := by
  show ssR p i = none
  unfold ssR
  have : ssT.find? (fun t => t.1 == p && t.2.1 == i) = none := List.find?_eq_none.mpr (fun t ht => by
    have h7 : t.1 < 65 := by
      revert t
      decide +kernel
    have h8 : t.1 ≠ p := by omega
    simp [h8])
  rw [this]
  rfl
theorem pX2_init {d p0 : Nat} {Q : zMem → Prop} {μ : zMem} {x1 x2 : Int} (hp : (gD μ).length = p0 + 1) (d0 : (gD μ)[p0]? = some (2, 0)) (h65 : 65 ≤ p0)
    (hQ : ∀ μ', gD μ' = gD μ ++ [(9, 5), (9, 98), (9, 70)] → (∀ j, j < p0 → gI μ' j = gI μ j ∧ gL μ' j = gL μ j ∧ gR μ' j = gR μ j) → gI μ' p0 0 = x1 → gI μ' p0 1 = x2 → gR μ' p0 2 = some (p0 + 1) → gR μ' p0 3 = some (p0 + 2) → gR μ' p0 4 = some (p0 + 3) → Q μ') : kX2_init (d + 1) p0 x1 x2 μ Q := by
  refine bX2_init ⟨by decide, by decide, fun q1 h1 => ?_⟩
  have e1 : q1 = p0 + 1 := by omega
  subst e1
  obtain ⟨A1, A2, A3⟩ := aDR (μ := μ) (p0 := p0) (k := 9) (n := 5) (i := 2) (v := some (p0 + 1))
  refine ⟨app_l d0, Or.inl (ss_no h65 2), by decide, by decide, fun q8 h8 => ?_⟩
  generalize hα : sR (aD μ 9 5) p0 2 (some (p0 + 1)) = α at h8 A1 A2 A3 ⊢
  have αl : (gD α).length = p0 + 2 := by rw [A1, List.length_append, hp]; rfl
  have e8 : q8 = p0 + 2 := by omega
  subst e8
  have αd : (gD α)[p0]? = some (2, 0) := by rw [A1]; exact app_l d0
  obtain ⟨B1, B2, B3⟩ := aDR (μ := α) (p0 := p0) (k := 9) (n := 98) (i := 3) (v := some (p0 + 2))
  refine ⟨app_l αd, Or.inl (ss_no h65 3), by decide, by decide, fun q16 h16 => ?_⟩
  generalize hβ : sR (aD α 9 98) p0 3 (some (p0 + 2)) = β at h16 B1 B2 B3 ⊢
  have βl : (gD β).length = p0 + 3 := by rw [B1, List.length_append, αl]; rfl
  have e16 : q16 = p0 + 3 := by omega
  subst e16
  have βd : (gD β)[p0]? = some (2, 0) := by rw [B1]; exact app_l αd
  obtain ⟨C1, C2, C3⟩ := aDR (μ := β) (p0 := p0) (k := 9) (n := 70) (i := 4) (v := some (p0 + 3))
  refine ⟨app_l βd, Or.inl (ss_no h65 4), app_l βd, by decide, by decide, ?_⟩
  generalize hγ : sR (aD β 9 70) p0 4 (some (p0 + 3)) = γ at C1 C2 C3 ⊢
  refine hQ _ ?_ (fun j hj => ⟨?_, ?_, ?_⟩) ?_ ?_ ?_ ?_ ?_
  · rw [gD_sI, gD_sI, C1, B1, A1]
    simp
  · rw [gI_sIn (by omega), gI_sIn (by omega), (C2 j (by omega)).1, (B2 j (by omega)).1]
    exact (A2 j (by omega)).1
  · rw [gL_sI, gL_sI, (C2 j (by omega)).2, (B2 j (by omega)).2]
    exact (A2 j (by omega)).2
  · rw [gR_sI, gR_sI]
    funext i'
    rw [C3 j i' (by omega), if_neg (by omega), B3 j i' (by omega), if_neg (by omega), A3 j i' (by omega), if_neg (by omega)]
  · rw [gI_sIo (by decide), gI_sIs]
  · rw [gI_sIs]
  · rw [gR_sI, gR_sI, C3 p0 2 (by omega), if_neg (by omega), B3 p0 2 (by omega), if_neg (by omega), A3 p0 2 (by omega), if_pos ⟨rfl, rfl⟩]
  · rw [gR_sI, gR_sI, C3 p0 3 (by omega), if_neg (by omega), B3 p0 3 (by omega), if_pos ⟨rfl, rfl⟩]
  · rw [gR_sI, gR_sI, C3 p0 4 (by omega), if_pos ⟨rfl, rfl⟩]
/-! what the state is then -/
theorem takO {s : Int → Int} {b v : Int} {es : List Int} (i : Int) (h : i < 82) : takS s b v es i = s i := by
  unfold takS
  rw [fu_o (by omega)]
  unfold takP
  rw [if_neg (by omega)]
  unfold takL
  rw [if_neg (by omega)]
  unfold takH
  rw [if_neg (by omega), if_neg (by omega), if_neg (by omega), if_neg (by omega), if_neg (by omega), if_neg (by omega)]
theorem takHd {s : Int → Int} {b v : Int} {es : List Int} {i : Int} (h : i < 88) : takS s b v es i = takH s b v es i := by
  unfold takS
  rw [fu_o (by omega)]
  unfold takP
  rw [if_neg (by omega)]
  unfold takL
  rw [if_neg (by omega)]
theorem takT {s : Int → Int} {b v : Int} {es : List Int} : takS s b v es 82 = 1 ∧ takS s b v es 83 = b ∧ takS s b v es 84 = (es.length : Int) ∧ takS s b v es 85 = v ∧ takS s b v es 86 = FG s b es 0 (s 78) 0 0 c0 c0 ∧ takS s b v es 87 = bot s b es ∧ takS s b v es 256 = s 31 := by
  rw [takHd (by decide), takHd (by decide), takHd (by decide), takHd (by decide), takHd (by decide), takHd (by decide)]
  exact ⟨rfl, rfl, rfl, rfl, rfl, rfl, fu_s⟩
theorem takV {s : Int → Int} {b v : Int} {es : List Int} (hl : (es.length : Int) ≤ 14) {i : Int} (a : 0 ≤ i) (c : i < 7 * (es.length : Int)) : takS s b v es (88 + i) = FV s b es 0 0 (s 78) c0 i := by
  unfold takS
  rw [fu_o (by omega)]
  unfold takP
  rw [if_neg (by omega)]
  unfold takL
  rw [if_pos (by omega), show 88 + i - 88 = i by omega]
theorem takW {s : Int → Int} {b v : Int} {es : List Int} (hn : s 31 ≤ 14) {i : Int} (a : 0 ≤ i) (c : i < 5 * s 31) : takS s b v es (186 + i) = PV s b es i := by
  unfold takS
  rw [fu_o (by omega)]
  unfold takP
  rw [if_pos (by omega), show 186 + i - 186 = i by omega]
theorem takWf {s : Int → Int} {b v : Int} {es : List Int} (hw : wf s) : wf (takS s b v es) := by
  have hn := hw.2.2.1
  refine wf_words hw (fun i a c => takO i (by omega)) (by rw [takO 31 (by decide)]; exact hn) (fun k a c => ?_) ?_
  · rw [takO 31 (by decide)] at c
    rw [takO _ (by omega), takO _ (by omega), takO _ (by omega)]
    exact hw.2.2.2.1 k a c
  · rw [takO 74 (by decide), takO 75 (by decide), takO 76 (by decide), takO 77 (by decide), takO 78 (by decide), takO 79 (by decide), takO 80 (by decide), takO 81 (by decide)]
    exact hw.2.2.2.2
theorem FV_bd {s : Int → Int} {b : Int} (hw : wf s) (b0 : 1 ≤ b) (b1 : b ≤ 12) : ∀ (es : List Int) (l first row pf : Int) (C U V : Int → Int) (x : Int), okAll s b es first row pf C U → 0 ≤ first → 0 ≤ row → row ≤ 41 → 7 * l ≤ x → x < 7 * (l + (es.length : Int)) → -1 ≤ FV s b es l first row V x ∧ FV s b es l first row V x ≤ 4000
  | [], l, first, row, pf, C, U, V, x, ok, f0, r0, r1, a, c => by
    rw [List.length_nil] at c
    omega
  | e :: es, l, first, row, pf, C, U, V, x, ok, f0, r0, r1, a, c => by
    have hn := hw.2.2.1
    have hlead := hw.2.2.2.2.2.2.2.2.2.1
    obtain ⟨fe, e1, okl, okr⟩ := ok
    have hfit := (okL_iff.mp okl).1
    have hf1 := hfit.1
    have hf2 := hfit.2
    have lb := lH_bd hw b0 b1 f0 fe e1
    have sb := SL_bd s row (lH s b first e)
    have sq := lS_sq s hw b0 b1 f0 e1 hf2
    rw [List.length_cons] at c
    show -1 ≤ FV s b es (l + 1) e (row + (lH s b first e + s 79)) (lV s b l first e row V) x ∧ FV s b es (l + 1) e (row + (lH s b first e + s 79)) (lV s b l first e row V) x ≤ 4000
    by_cases g : x < 7 * (l + 1)
    · rw [FV_lo es e (l + 1) _ _ x g]
      have : x = 7 * l ∨ x = 7 * l + 1 ∨ x = 7 * l + 2 ∨ x = 7 * l + 3 ∨ x = 7 * l + 4 ∨ x = 7 * l + 5 ∨ x = 7 * l + 6 := by omega
      unfold lV
      rcases this with h | h | h | h | h | h | h
      · rw [if_pos h]; omega
      · rw [if_neg (by omega), if_pos h]; omega
      · rw [if_neg (by omega), if_neg (by omega), if_pos h]; omega
      · rw [if_neg (by omega), if_neg (by omega), if_neg (by omega), if_pos h]; omega
      · rw [if_neg (by omega), if_neg (by omega), if_neg (by omega), if_neg (by omega), if_pos h]; omega
      · rw [if_neg (by omega), if_neg (by omega), if_neg (by omega), if_neg (by omega), if_neg (by omega), if_pos h]; omega
      · rw [if_neg (by omega), if_neg (by omega), if_neg (by omega), if_neg (by omega), if_neg (by omega), if_neg (by omega), if_pos h]; omega
    · exact FV_bd hw b0 b1 es (l + 1) e _ _ _ _ _ x okr (by omega) (by omega) (by omega) (by omega) (by omega)
theorem takWp {s : Int → Int} {b v : Int} {es : List Int} (hw : wf s) (b0 : 1 ≤ b) (b1 : b ≤ 12) (ok : okAll s b es 0 (s 78) 0 c0 c0) (hne : es ≠ []) (hv : zIn v) : wfP (takS s b v es) := by
  have hn := hw.2.2.1
  have htop := hw.2.2.2.2.2.2.2.2.1
  have hlim := hw.2.2.2.2.2.2.2.2.2.2.2
  have hinc := okAll_inc _ _ _ _ _ _ ok
  have len := inc_le es 0 hinc
  have hl1 : 1 ≤ es.length := by
    cases es with
    | nil => exact absurd rfl hne
    | cons => simp
  obtain ⟨pf', p1, p2, p3, p4, p5, p6, p7, p8, p9, p10, p11⟩ := PI_fin hw b0 b1 es 0 0 (s 78) 0 0 c0 c0 c0 c0 ok (PI_0 hw)
  rw [FL_eq] at p8
  have fvb : ∀ x, 0 ≤ x → x < 7 * (es.length : Int) → -1 ≤ FV s b es 0 0 (s 78) c0 x ∧ FV s b es 0 0 (s 78) c0 x ≤ 4000 := fun x a c => FV_bd hw b0 b1 es 0 0 (s 78) 0 c0 c0 c0 x ok (by omega) (by omega) (by omega) (by omega) (by omega)
  obtain ⟨t82, t83, t84, t85, t86, t87, t256⟩ := takT (s := s) (b := b) (v := v) (es := es)
  unfold wfP
  rw [t82, t84, t256]
  refine ⟨Or.inr rfl, fun _ => ⟨⟨by omega, by omega⟩, ⟨by omega, by omega⟩, fun i a c => ?_, fun i a c => ?_, fun i a c => ?_⟩⟩
  · have : i = 0 ∨ i = 1 ∨ i = 2 ∨ i = 3 ∨ i = 4 := by omega
    rcases this with h | h | h | h | h <;> subst h
    · rw [show (83 : Int) + 0 = 83 from rfl, t83]
      exact zi _
    · rw [show (83 : Int) + 1 = 84 from rfl, t84]
      exact zi _
    · rw [show (83 : Int) + 2 = 85 from rfl, t85]
      exact hv
    · rw [show (83 : Int) + 3 = 86 from rfl, t86]
      exact zi _
    · rw [show (83 : Int) + 4 = 87 from rfl, t87]
      have x1 := fvb (7 * ((es.length : Int) - 1) + 2) (by omega) (by omega)
      have x2 := fvb (7 * ((es.length : Int) - 1) + 3) (by omega) (by omega)
      unfold bot
      exact zi _
  · rw [takV (by omega) a c]
    have := fvb i a c
    exact zi _
  · rw [takW hn.2 a c]
    have cb := p9 (i / 5) (by omega) (by omega)
    have ub := p8 (i / 5) (by omega) (by omega)
    have db := FD_bd (s := s) (b := b) (C := FC s b es 0 (s 78) c0) es 0 (i / 5) hinc
    have wb := wd_bd hw b0 b1 (show 0 ≤ i / 5 by omega) (by omega)
    have sb := sz_bd hw b0 b1 (show 0 ≤ i / 5 by omega) (by omega)
    have o1 := lnO_ge es 0 (i / 5)
    have o2 := lnO_le es 0 0 (i / 5) hinc (by omega) (by omega)
    unfold PV
    by_cases h0 : i % 5 = 0
    · rw [if_pos h0]; exact zi _
    by_cases h1 : i % 5 = 1
    · rw [if_neg h0, if_pos h1]; exact zi _
    by_cases h2 : i % 5 = 2
    · rw [if_neg h0, if_neg h1, if_pos h2]; exact zi _
    by_cases h3 : i % 5 = 3
    · rw [if_neg h0, if_neg h1, if_neg h2, if_pos h3]; exact zi _
    rw [if_neg h0, if_neg h1, if_neg h2, if_neg h3]
    unfold FW
    by_cases h4 : i / 5 = lnF es 0 (i / 5)
    · rw [if_pos h4]; exact zi _
    · rw [if_neg h4]; exact zi _
