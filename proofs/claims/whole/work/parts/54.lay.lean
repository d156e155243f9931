/-! the search itself -/
def dfr (L first : Int) (μ μ' : zMem) : Prop := scf μ μ' ∧ (∀ q, q ≠ 11 → ¬ (24 ≤ q ∧ q ≤ 27) → q ≠ 29 → gI μ' q = gI μ q) ∧ (∀ i, i ≠ 12 → i ≠ 16 → i ≠ 17 → gI μ' 11 i = gI μ 11 i) ∧ (∀ i, i ≤ L → gI μ' 24 i = gI μ 24 i) ∧ ∀ i, i < first → gI μ' 25 i = gI μ 25 i ∧ gI μ' 26 i = gI μ 26 i ∧ gI μ' 27 i = gI μ 27 i
theorem dfr.rf {L first : Int} {μ : zMem} : dfr L first μ μ := ⟨scf.rf, fun _ _ _ _ => rfl, fun _ _ _ _ => rfl, fun _ _ => rfl, fun _ _ => ⟨rfl, rfl, rfl⟩⟩
theorem dfr.tr {L first L' first' : Int} {μ μ' μ'' : zMem} (h : dfr L first μ μ') (h' : dfr L' first' μ' μ'') (hl : L ≤ L') (hf : first ≤ first') : dfr L first μ μ'' := ⟨h.1.tr h'.1, fun q a b c => (h'.2.1 q a b c).trans (h.2.1 q a b c), fun i a b c => (h'.2.2.1 i a b c).trans (h.2.2.1 i a b c), fun i a => (h'.2.2.2.1 i (by omega)).trans (h.2.2.2.1 i a), fun i a => by
  have x := h'.2.2.2.2 i (by omega)
  have y := h.2.2.2.2 i a
  exact ⟨x.1.trans y.1, x.2.1.trans y.2.1, x.2.2.trans y.2.2⟩⟩
theorem dfr.sp {s : Int → Int} {b L first : Int} {μ μ' : zMem} (h : dfr L first μ μ') (hs : SP s b μ) : SP s b μ' := hs.of (fun q a c => h.2.1 q (by omega) (by omega) (by omega)) (fun i a c => h.2.2.1 i (by omega) (by omega) (by omega))
theorem dfr.lc {s : Int → Int} {b L first n : Int} {μ μ' : zMem} (h : dfr L first μ μ') (hs : LCT s b n μ) : LCT s b n μ' := fun w r a c e f => by
  rw [h.2.1 23 (by omega) (by omega) (by omega)]
  exact hs w r a c e f
def PX (s : Int → Int) (b : Int) (ps : List Int) (pf first : Int) (C U : Int → Int) (μ : zMem) : Prop := pth ps 24 μ ∧ gI μ 24 (ps.length : Int) = first ∧ (0 < ps.length → gI μ 24 ((ps.length : Int) - 1) = pf) ∧ (∀ i, pf ≤ i → i < first → gI μ 25 i = C i) ∧ (∀ i, pf < i → i < first → gI μ 26 i = C (i - 1) + wd s b (i - 1)) ∧ ∀ i, pf < i → i < first → gI μ 27 i = U i
def PB (ps : List Int) (pf first : Int) (C U : Int → Int) : Prop := (ps.length : Int) ≤ first ∧ 0 ≤ pf ∧ pf ≤ first ∧ (ps.length = 0 → pf = first) ∧ (∀ i, 0 ≤ i → i < first → 0 ≤ U i ∧ U i ≤ (ps.length : Int)) ∧ ∀ i, 0 ≤ i → i < first → -1 ≤ C i ∧ C i ≤ 9000
theorem pth_snoc {ps : List Int} {p : Nat} {μ : zMem} {e : Int} (h : pth ps p μ) (he : gI μ p ((ps.length : Int) + 1) = e) : pth (ps ++ [e]) p μ := by
  refine ⟨h.1, fun i hi => ?_⟩
  rw [List.length_append, List.length_singleton] at hi
  by_cases g : i < ps.length
  · rw [List.getElem_append_left g]
    exact h.2 i g
  · have : i = ps.length := by omega
    subst this
    simp [he]
theorem PX.fr {s : Int → Int} {b : Int} {ps : List Int} {pf first : Int} {C U : Int → Int} {μ μ' : zMem} (h : PX s b ps pf first C U μ) (hd : dfr (ps.length : Int) first μ μ') : PX s b ps pf first C U μ' := by
  obtain ⟨a, c, e, f, g, k⟩ := h
  refine ⟨⟨by rw [hd.2.2.2.1 0 (by omega)]; exact a.1, fun i hi => by rw [hd.2.2.2.1 _ (by omega)]; exact a.2 i hi⟩, by rw [hd.2.2.2.1 _ (by omega)]; exact c, fun q => by rw [hd.2.2.2.1 _ (by omega)]; exact e q, fun i x y => by rw [(hd.2.2.2.2 i y).1]; exact f i x y, fun i x y => by rw [(hd.2.2.2.2 i y).2.1]; exact g i x y, fun i x y => by rw [(hd.2.2.2.2 i y).2.2]; exact k i x y⟩
theorem pX4_keep {d : Nat} {Q : zMem → Prop} {μ : zMem} {oc w c first : Int} {st : Int × Option (Int × List Int)} {ps : List Int} (hp : pth ps 24 μ) (hl : ps.length ≤ 14) (hi : SI oc w st) (hd : DM oc w st μ) (h0 : oc = 0 → st.1 < w) (h1 : oc = 1 → ∀ e0, st.2 = some e0 → c < e0.1) (hQ : ∀ μ', dfr (ps.length : Int) first μ μ' → DM oc w (stp oc w st (c, ps)) μ' → Q μ') : kX4_keep (d + 1) (ps.length : Int) c μ Q := by
  obtain ⟨d1, d2, d3, d4⟩ := hd
  refine bX4_keep ?_
  rw [gI_sIo (by decide), d3, d1]
  have hz := hi.1
  refine ⟨by rcases hz with h | h <;> rw [h] <;> exact zi _, fun e => ?_, fun e => ⟨by decide, by decide, ?_⟩⟩
  · refine hQ _ ⟨scf.rf.w (by omega), fun q a b c => gI_sIn a, fun i a b c => gI_sIo a, fun i a => by rw [gI_sIn (by decide)], fun i a => by rw [gI_sIn (by decide), gI_sIn (by decide), gI_sIn (by decide)]; exact ⟨rfl, rfl, rfl⟩⟩ ⟨?_, by rw [gI_sIo (by decide)]; exact d2, by rw [gI_sIo (by decide)]; exact d3, fun q => by omega⟩
    rw [gI_sIs]
    unfold stp
    rw [if_pos e, if_pos (h0 e)]
  · have e1 : oc = 1 := by omega
    have es : stp oc w st (c, ps) = (st.1 + 1, some (c, ps)) := by
      unfold stp
      rw [if_neg e]
      cases ho : st.2 with
      | none => rfl
      | some e0 =>
        dsimp only
        rw [if_pos (h1 e1 e0 ho)]
    rw [es] at hQ
    have big : ∀ q, q ≠ 11 → q ≠ 29 → gI (cI (sI (sI (sI μ 11 12 (st.1 + 1)) 11 17 c) 11 16 (ps.length : Int)) 24 0 29 0 ((15 : Nat) : Int)) q = gI μ q := fun q a b => by
      rw [gI_cIn b, gI_sIn a, gI_sIn a, gI_sIn a]
    refine hQ _ ⟨⟨rfl, rfl, rfl, fun q a => big q (by omega) (by omega)⟩, fun q a b c => big q a c, fun i a b c => by rw [gI_cIn (by decide), gI_sIo b, gI_sIo c, gI_sIo a], fun i a => by rw [big 24 (by decide) (by decide)], fun i a => by rw [big 25 (by decide) (by decide), big 26 (by decide) (by decide), big 27 (by decide) (by decide)]; exact ⟨rfl, rfl, rfl⟩⟩
      ⟨by rw [gI_cIn (by decide), gI_sIo (by decide), gI_sIo (by decide), gI_sIs], by rw [gI_cIn (by decide), gI_sIo (by decide), gI_sIo (by decide), gI_sIo (by decide)]; exact d2, by rw [gI_cIn (by decide), gI_sIo (by decide), gI_sIo (by decide), gI_sIo (by decide)]; exact d3, fun _ x hx => ?_⟩
    have hx' : (c, ps) = x := Option.some.inj hx
    rw [← hx']
    refine ⟨by rw [gI_cIn (by decide), gI_sIo (by decide), gI_sIs], by rw [gI_cIn (by decide), gI_sIs], ?_, fun i h => ?_⟩
    · rw [gI_cI, if_pos rfl, if_pos ⟨by omega, by omega⟩, gI_sIn (by decide), gI_sIn (by decide), gI_sIn (by decide)]
      exact hp.1
    · have h' : i < ps.length := h
      rw [gI_cI, if_pos rfl, if_pos ⟨by omega, by omega⟩, gI_sIn (by decide), gI_sIn (by decide), gI_sIn (by decide), show 0 + ((i : Int) + 1 - 0) = (i : Int) + 1 by omega]
      exact hp.2 i h
theorem SI_fold {oc w : Int} (L : List (Int × List Int)) : ∀ st : Int × Option (Int × List Int), SI oc w st → (∀ x ∈ L, 0 ≤ x.1 ∧ x.1 ≤ 39000) → SI oc w (L.foldl (stp oc w) st) := by
  induction L with
  | nil => intro st h _; exact h
  | cons x L ih =>
    intro st h hx
    rw [List.foldl_cons]
    have := hx x List.mem_cons_self
    exact ih _ (SI_stp h this.1 this.2) (fun y hy => hx y (List.mem_cons_of_mem _ hy))
theorem SI.z {oc w : Int} {st : Int × Option (Int × List Int)} (h : SI oc w st) : zIn st.1 ∧ zIn w ∧ (w ≤ st.1 → oc = 0) := by
  obtain ⟨h1, h2, h3⟩ := h
  rcases h1 with h1 | h1
  · have := h2 h1
    exact ⟨zi _, zi _, fun _ => h1⟩
  · obtain ⟨a, c, g⟩ := h3 h1
    cases ho : st.2 with
    | none =>
      have := c ho
      exact ⟨zi _, zi _, fun q => by omega⟩
    | some e =>
      have := g e ho
      exact ⟨zi _, zi _, fun q => by omega⟩
theorem dfs {s : Int → Int} {b oc w : Int} (hw : wf s) (b0 : 1 ≤ b) (b1 : b ≤ 12) : ∀ (m d : Nat) (Q : zMem → Prop) (μ : zMem) (ps : List Int) (pf first row c : Int) (C U : Int → Int) (st : Int × Option (Int × List Int)), s 31 - first ≤ m → first ≤ s 31 → 0 ≤ c → c ≤ 2304 * first → s 78 ≤ row → row ≤ 41 → (gD μ)[27]? = some (9, 14) → SP s b μ → LCT s b 0 μ → PX s b ps pf first C U μ → PB ps pf first C U → SI oc w st → DM oc w st μ → (first = s 31 → (oc = 0 → st.1 < w) ∧ (oc = 1 → ∀ e0, st.2 = some e0 → c < e0.1)) →
    (∀ μ', dfr (ps.length : Int) first μ μ' → DM oc w (((compF s b first row pf C U).map (fun x => (c + x.1, ps ++ x.2))).foldl (stp oc w) st) μ' → Q μ') → kX4_layFrom (d + 2 * m + 3) (ps.length : Int) row c μ Q := by
  have hn := hw.2.2.1
  have htop := hw.2.2.2.2.2.2.2.2.1
  have hlead := hw.2.2.2.2.2.2.2.2.2.1
  have hlim := hw.2.2.2.2.2.2.2.2.2.2.2
  intro m
  induction m with
  | zero =>
    intro d Q μ ps pf first row c C U st h1 h2 c0 c1 r0 r1 hD hs hl hx hb hi hdm hpre hQ
    have ef : first = s 31 := by omega
    have hb1 := hb.1
    refine bX4_layFrom ⟨by omega, by omega, ?_⟩
    rw [hx.2.1, hs.1.1.1]
    refine ⟨zi _, zi _, fun q => absurd q (by omega), fun _ => ?_⟩
    refine pX4_keep (first := first) hx.1 (by omega) hi hdm (hpre ef).1 (hpre ef).2 (fun μ' a e => hQ μ' a ?_)
    unfold compF
    rw [if_pos ef]
    simp only [List.map_cons, List.map_nil, List.foldl_cons, List.foldl_nil, Int.add_zero, List.append_nil]
    exact e
  | succ m ih =>
    intro d Q μ ps pf first row c C U st h1 h2 c0 c1 r0 r1 hD hs hl hx hb hi hdm hpre hQ
    have hb' := hb
    obtain ⟨pb1, pb2, pb3, pb4, pb5, pb6⟩ := hb'
    show kX4_layFrom (d + 2 * m + 4 + 1) (ps.length : Int) row c μ Q
    refine bX4_layFrom ⟨by omega, by omega, ?_⟩
    rw [hx.2.1, hs.1.1.1]
    by_cases ef : first = s 31
    · refine ⟨zi _, zi _, fun q => absurd q (by omega), fun _ => ?_⟩
      refine pX4_keep (first := first) hx.1 (by omega) hi hdm (hpre ef).1 (hpre ef).2 (fun μ' a e => hQ μ' a ?_)
      unfold compF
      rw [if_pos ef]
      simp only [List.map_cons, List.map_nil, List.foldl_cons, List.foldl_nil, Int.add_zero, List.append_nil]
      exact e
    have hle := hs.1.2.1 first (by omega) (by omega)
    have eF : compF s b first row pf C U = comp s b (s 31 - 1 - first).toNat first row pf C U := by
      unfold compF
      rw [if_neg ef]
    rw [eF] at hQ
    refine ⟨zi _, zi _, fun _ => ⟨zi _, fun _ => ?_, fun q => absurd (by omega) q⟩, fun q => absurd (by omega) q⟩
    -- a line that ends before e
    have try_ : ∀ (e : Int) (st : Int × Option (Int × List Int)) (ξ : zMem) (Q' : zMem → Prop), first < e → e ≤ s 31 → fit s b first e row → dfr (ps.length : Int) first μ ξ → gI ξ 24 ((ps.length : Int) + 1) = e → SI oc w st → DM oc w st ξ → (oc = 0 → st.1 < w) →
        (∀ μ', dfr (ps.length : Int) first ξ μ' → DM oc w (((if okL s b first e row pf C U = true then (compF s b e (row + (lH s b first e + s 79)) first (lC s b first e row C) (lU s b (lC s b first e row C) U pf first)).map (fun x => (lS s b first e row * lS s b first e row + x.1, e :: x.2)) else []).map (fun x => (c + x.1, ps ++ x.2))).foldl (stp oc w) st) μ' → Q' μ') →
        kX4_tryLine (d + 2 * m + 4) (ps.length : Int) row (lS s b first e row) (c + lS s b first e row * lS s b first e row) ξ Q' := by
      intro e st ξ Q' fe e1 hfit hdx he hi hdm hst hq
      have hsx := hdx.sp hs
      have hlx := hdx.lc hl
      have hxx := hx.fr hdx
      have sq := lS_sq s hw b0 b1 (show 0 ≤ first by omega) e1 hfit.2
      have lb := lH_bd hw b0 b1 (show 0 ≤ first by omega) fe e1
      have hf1 := hfit.1
      have nothing : (compF s b e (row + (lH s b first e + s 79)) first (lC s b first e row C) (lU s b (lC s b first e row C) U pf first) = [] ∨ okL s b first e row pf C U ≠ true) → ∀ μ', dfr (ps.length : Int) first ξ μ' → DM oc w st μ' → Q' μ' := by
        intro h μ' a g
        refine hq μ' a ?_
        rcases h with h | h
        · rw [h]
          simp only [List.map_nil, ite_self, List.foldl_nil]
          exact g
        · rw [if_neg h]
          exact g
      refine bX4_tryLine ⟨by omega, by omega, by omega, by omega, ?_⟩
      rw [hxx.2.1, he]
      refine pX4_rowBehind hw hsx.1 hsx.2.2.2.1 (by omega) fe e1 ?_
      refine pX4_leastCostFrom hw b0 b1 hsx.1.1.1 (by omega) e1 (fun w' r a => hlx w' r (by omega)) (by omega) (by omega) ?_
      intro v v1 v2 v3 v4
      have lbv : ∀ x ∈ compF s b e (row + (lH s b first e + s 79)) first (lC s b first e row C) (lU s b (lC s b first e row C) U pf first), v ≠ -1 ∧ v ≤ x.1 := by
        intro x hx'
        unfold compF at hx'
        by_cases g : e = s 31
        · rw [if_pos g] at hx'
          simp only [List.mem_singleton] at hx'
          subst hx'
          have := v1 g
          dsimp only
          omega
        · rw [if_neg g] at hx'
          exact v2 (by omega) _ _ _ x hx'
      have go : (oc = 1 → ∀ e0, st.2 = some e0 → c + lS s b first e row * lS s b first e row + v < e0.1) → kX4_placeWords (d + 2 * m + 3) first e row (lS s b first e row) ξ (fun μ13 : zMem => kX4_chainFromAbove (d + 2 * m + 3) (ps.length : Int) μ13 (fun (r15 : Int) (μ14 : zMem) => (zIn r15) ∧ ((zIn (gI μ14 11 5)) ∧ (((gI μ14 11 5) < r15 → (Q' μ14)) ∧ (¬ ((gI μ14 11 5) < r15) → (kX4_layFrom (d + 2 * m + 3) ((ps.length : Int) + 1) (row + (lH s b first e + s 79)) (c + lS s b first e row * lS s b first e row) μ14 (fun μ19 : zMem => Q' μ19))))))) := by
        intro hcheap
        refine pX4_placeWords hw b0 b1 hsx (by omega) fe e1 (by omega) hfit ?_
        intro ζ g1 g2 g3 g4 g5
        have d1 : dfr (ps.length : Int) first ξ ζ := ⟨g1, fun q a a' a'' => g2 q (by omega) (by omega), fun i _ _ _ => by rw [g2 11 (by decide) (by decide)], fun i _ => by rw [g2 24 (by decide) (by decide)], fun i a => ⟨(g3 i a).1, (g3 i a).2, by rw [g2 27 (by decide) (by decide)]⟩⟩
        have z24 : gI ζ 24 = gI ξ 24 := g2 24 (by decide) (by decide)
        have bcC := lC_bd (C := C) hw b0 b1 (show 0 ≤ first by omega) e1 hfit.2 (by omega) pb6
        refine pX4_chainFromAbove (C := lC s b first e row C) (U := U) (pf := pf) (first := first) (k := e) (row := row) hw b0 b1 (by rw [g1.1, hdx.1.1]; exact hD) (by omega) (by omega) pb1 fe e1 pb2 pb3 (by rw [z24]; exact hxx.2.1) (by rw [z24]; exact he) (fun q => by rw [z24]; exact hxx.2.2.1 (by omega)) (fun q => pb4 (by omega)) (fun i a a' => ?_) (fun i a a' a'' => ?_) (fun i a a' => by rw [g2 27 (by decide) (by decide)]; exact hxx.2.2.2.2.2 i a a') pb5 bcC ?_
        · by_cases g : first ≤ i
          · exact g4 C i g a'
          · rw [(g3 i (by omega)).1, hxx.2.2.2.1 i a (by omega)]
            unfold lC
            rw [if_neg g]
        · by_cases g : first < i
          · exact g5 C i g a'
          · rw [(g3 i (by omega)).2, hxx.2.2.2.2.1 i a (by omega)]
            unfold lC
            rw [if_neg (by omega)]
        intro χ k1 k2 k3 k4
        have d2 : dfr (ps.length : Int) first ξ χ := ⟨g1.tr k1, fun q a a' a'' => (k2 q (by omega)).trans (d1.2.1 q a a' a''), fun i a a' a'' => by rw [k2 11 (by decide)]; exact d1.2.2.1 i a a' a'', fun i a => by rw [k2 24 (by decide)]; exact d1.2.2.2.1 i a, fun i a => by
          have := d1.2.2.2.2 i a
          rw [k2 25 (by decide), k2 26 (by decide), k3 i (by omega)]
          exact this⟩
        have lgb := Lg_bd (U := lU s b (lC s b first e row C) U pf first) (first := first) (l := (ps.length : Int) + 1) (by omega) (e - first - 1).toNat (fun i hi' => (lU_bd (k := e) (by omega) pb2 pb3 pb5 (first + 1 + i) (by omega) (by omega)).2)
        have dmχ : DM oc w st χ := by
          obtain ⟨q1, q2, q3, q4⟩ := hdm
          have e11 : gI χ 11 = gI ξ 11 := by rw [k2 11 (by decide), g2 11 (by decide) (by decide)]
          have e29 : gI χ 29 = gI ξ 29 := by rw [k2 29 (by decide), g2 29 (by decide) (by decide)]
          refine ⟨by rw [e11]; exact q1, by rw [e11]; exact q2, by rw [e11]; exact q3, fun q x hx' => ?_⟩
          have := q4 q x hx'
          rw [e11]
          exact ⟨this.1, this.2.1, by rw [e29]; exact this.2.2.1, fun i hi' => by rw [e29]; exact this.2.2.2 i hi'⟩
        have h5 : gI χ 11 5 = s 81 := (d2.sp hsx).2.2.2.2.2
        rw [h5]
        refine ⟨zi _, zi _, fun hg => nothing (Or.inr (fun q => ?_)) χ d2 dmχ, fun hg => ?_⟩
        · have := (okL_iff.mp q).2
          omega
        have hok : okL s b first e row pf C U = true := okL_iff.mpr ⟨hfit, by omega⟩
        have hlen : ((ps ++ [e]).length : Int) = (ps.length : Int) + 1 := by simp
        rw [← hlen]
        have px : PX s b (ps ++ [e]) first e (lC s b first e row C) (lU s b (lC s b first e row C) U pf first) χ := by
          have z24' : gI χ 24 = gI ξ 24 := by rw [k2 24 (by decide), z24]
          refine ⟨pth_snoc ⟨by rw [z24']; exact hxx.1.1, fun i hi' => by rw [z24']; exact hxx.1.2 i hi'⟩ (by rw [z24']; exact he), by rw [hlen, z24']; exact he, fun _ => by rw [hlen, z24', show (ps.length : Int) + 1 - 1 = ps.length by omega]; exact hxx.2.1, fun i a a' => by rw [k2 25 (by decide)]; exact g4 C i a a', fun i a a' => by rw [k2 26 (by decide)]; exact g5 C i a a', fun i a a' => k4 i a a'⟩
        have pbn : PB (ps ++ [e]) first e (lC s b first e row C) (lU s b (lC s b first e row C) U pf first) := by
          refine ⟨by rw [hlen]; omega, by omega, by omega, fun q => by simp at q, fun i a a' => ?_, bcC⟩
          rw [hlen]
          exact lU_bd (k := e) (by omega) pb2 pb3 pb5 i a a'
        refine ih d _ χ (ps ++ [e]) first e (row + (lH s b first e + s 79)) (c + lS s b first e row * lS s b first e row) _ _ st (by omega) e1 (by omega) (by omega) (by omega) (by omega) (by rw [d2.1.1, hdx.1.1]; exact hD) (d2.sp hsx) (d2.lc hlx) px pbn hi dmχ (fun q => ⟨hst, fun o1 e0 h0 => ?_⟩) (fun μ' a g => ?_)
        · have := hcheap o1 e0 h0
          have := v1 q
          omega
        · rw [hlen] at a
          refine hq μ' (d2.tr a (by omega) (by omega)) ?_
          rw [if_pos hok, List.map_map]
          have em : ((fun x : Int × List Int => (c + x.1, ps ++ x.2)) ∘ fun x => (lS s b first e row * lS s b first e row + x.1, e :: x.2)) = fun x : Int × List Int => (c + lS s b first e row * lS s b first e row + x.1, ps ++ [e] ++ x.2) := by
            funext x
            simp [Int.add_assoc]
          rw [em]
          exact g
      refine ⟨zi _, fun hv => ?_, fun hv => ?_⟩
      · refine nothing (Or.inl ?_) ξ dfr.rf hdm
        cases hc : compF s b e (row + (lH s b first e + s 79)) first (lC s b first e row C) (lU s b (lC s b first e row C) U pf first) with
        | nil => rfl
        | cons x L => exact absurd hv (lbv x (by rw [hc]; exact List.mem_cons_self)).1
      · rw [hdm.2.2.1]
        refine ⟨by rcases hi.1 with h | h <;> rw [h] <;> exact zi _, fun o0 => go (fun q => by omega), fun o0 => ?_⟩
        have o1 : oc = 1 := by rcases hi.1 with h | h <;> omega
        have i3 := hi.2.2 o1
        rw [hdm.1]
        cases ho : st.2 with
        | none =>
          have k0 := i3.2.1 ho
          exact ⟨by rw [k0]; exact zi _, fun _ => go (fun _ e0 h0 => by rw [ho] at h0; cases h0), fun q => absurd (by omega) q⟩
        | some e0 =>
          have i4 := i3.2.2 e0 ho
          have d4 := hdm.2.2.2 o1 e0 ho
          refine ⟨zi _, fun q => by omega, fun _ => ?_⟩
          rw [d4.1]
          refine ⟨zi _, zi _, fun lt => go (fun _ e0' h0 => ?_), fun lt => ?_⟩
          · rw [ho] at h0
            have := Option.some.inj h0
            rw [← this]
            exact lt
          · refine hq ξ dfr.rf ?_
            rw [fold_dear o1 ho]
            · exact hdm
            · intro x hx'
              rw [List.mem_map] at hx'
              obtain ⟨y, hy, rfl⟩ := hx'
              split at hy
              · rw [List.mem_map] at hy
                obtain ⟨z, hz', rfl⟩ := hy
                have := (lbv z hz').2
                dsimp only
                omega
              · cases hy
    have loop : ∀ (r : Nat) (e : Int) (st : Int × Option (Int × List Int)) (ξ : zMem), s 31 - r = e → first < e → e ≤ gI μ 20 first → dfr (ps.length : Int) first μ ξ → SI oc w st → DM oc w st ξ → (∀ μ', dfr (ps.length : Int) first μ μ' → DM oc w (((comp s b r first row pf C U).map (fun x => (c + x.1, ps ++ x.2))).foldl (stp oc w) st) μ' → Q μ') → zX4_layFrom_40 (d + 2 * m + 4) Q (ps.length : Int) row c first e ξ := by
      have one : ∀ (r : Nat) (e : Int) (st : Int × Option (Int × List Int)) (ξ : zMem), s 31 - r = e → first < e → e ≤ gI μ 20 first → dfr (ps.length : Int) first μ ξ → SI oc w st → DM oc w st ξ → (∀ μ', dfr (ps.length : Int) first μ μ' → DM oc w (((comp s b r first row pf C U).map (fun x => (c + x.1, ps ++ x.2))).foldl (stp oc w) st) μ' → Q μ') →
          (∀ (st1 : Int × Option (Int × List Int)) (χ : zMem), dfr (ps.length : Int) first μ χ → SI oc w st1 → DM oc w st1 χ → (∀ μ', dfr (ps.length : Int) first μ μ' → DM oc w (((if 0 < r ∧ s (32 + 3 * e + 2) = 0 then comp s b (r - 1) first row pf C U else []).map (fun x => (c + x.1, ps ++ x.2))).foldl (stp oc w) st1) μ' → Q μ') → zX4_layFrom_40 (d + 2 * m + 4) Q (ps.length : Int) row c first (e + 1) χ) → zX4_layFrom_40 (d + 2 * m + 4) Q (ps.length : Int) row c first e ξ := by
        intro r e st ξ he fe hle' hdx hi hdm hq next
        have e20 : gI ξ 20 = gI μ 20 := hdx.2.1 20 (by omega) (by omega) (by omega)
        have hl2 := hle.2.1
        have iz := hi.z
        refine bX4_layFrom_40 ⟨by omega, by omega, zi _, by rw [e20]; exact zi _, fun q => absurd q (by rw [e20]; omega), fun _ => ?_⟩
        rw [hdm.1, hdm.2.1]
        refine ⟨iz.1, iz.2.1, fun q => hq ξ hdx ?_, fun hlt => ?_⟩
        · rw [fold_stop ⟨iz.2.2 q, q⟩]
          exact hdm
        have hsx := hdx.sp hs
        refine pX4_slackOf hw b0 b1 hsx.1 hsx.2.1 (by omega) fe (by omega) (by omega) (by omega) (fun zz => ⟨zz, fun hs1 => hq ξ hdx ?_, fun hs1 => ⟨by omega, by omega, ?_⟩⟩)
        · rw [comp_nil (e := e) hw b0 b1 (by omega) fe (fun q => slV_ne.mpr q hs1) r (by omega)]
          exact hdm
        have hfit := slV_ne.mp hs1
        rw [slV_eq hfit]
        have sq := lS_sq s hw b0 b1 (show 0 ≤ first by omega) (show e ≤ s 31 by omega) hfit.2
        have dx2 : dfr (ps.length : Int) first ξ (sI ξ 24 ((ps.length : Int) + 1) e) := ⟨scf.rf.w (by omega), fun q a a' a'' => gI_sIn (by omega), fun i _ _ _ => by rw [gI_sIn (by decide)], fun i a => gI_sIo (by omega), fun i a => by rw [gI_sIn (by decide), gI_sIn (by decide), gI_sIn (by decide)]; exact ⟨rfl, rfl, rfl⟩⟩
        have dx3 := hdx.tr dx2 (Int.le_refl _) (Int.le_refl _)
        have dm2 : DM oc w st (sI ξ 24 ((ps.length : Int) + 1) e) := by
          obtain ⟨q1, q2, q3, q4⟩ := hdm
          refine ⟨by rw [gI_sIn (by decide)]; exact q1, by rw [gI_sIn (by decide)]; exact q2, by rw [gI_sIn (by decide)]; exact q3, fun q x hx' => ?_⟩
          have := q4 q x hx'
          exact ⟨by rw [gI_sIn (by decide)]; exact this.1, by rw [gI_sIn (by decide)]; exact this.2.1, by rw [gI_sIn (by decide)]; exact this.2.2.1, fun i hi' => by rw [gI_sIn (by decide)]; exact this.2.2.2 i hi'⟩
        refine try_ e st _ _ fe (by omega) hfit dx3 gI_sIs hi dm2 (fun _ => by omega) ?_
        intro χ a g
        refine next _ χ (dx3.tr a (Int.le_refl _) (Int.le_refl _)) (SI_fold _ st hi (fun x hx' => ?_)) g (fun μ' a' g' => hq μ' a' ?_)
        · rw [List.mem_map] at hx'
          obtain ⟨y, hy, rfl⟩ := hx'
          split at hy
          · rw [List.mem_map] at hy
            obtain ⟨z, hz', rfl⟩ := hy
            have := compF_bd hw b0 b1 (by omega) (by omega) z hz'
            dsimp only
            omega
          · cases hy
        · rw [comp_F he, List.map_append, List.foldl_append]
          exact g'
      intro r
      induction r with
      | zero =>
        intro e st ξ he fe hle' hdx hi hdm hq
        have hl2 := hle.2.1
        refine one 0 e st ξ he fe hle' hdx hi hdm hq (fun st1 χ a i1 g h => ?_)
        have e20 : gI χ 20 = gI μ 20 := a.2.1 20 (by omega) (by omega) (by omega)
        refine bX4_layFrom_40 ⟨by omega, by omega, zi _, by rw [e20]; exact zi _, fun _ => h χ a ?_, fun q => absurd (by rw [e20]; omega) q⟩
        rw [if_neg (fun q => absurd q.1 (by decide))]
        exact g
      | succ r ihr =>
        intro e st ξ he fe hle' hdx hi hdm hq
        have hl2 := hle.2.1
        refine one (r + 1) e st ξ he fe hle' hdx hi hdm hq (fun st1 χ a i1 g h => ?_)
        have e20 : gI χ 20 = gI μ 20 := a.2.1 20 (by omega) (by omega) (by omega)
        by_cases lt : gI μ 20 first < e + 1
        · have eL : gI μ 20 first = e := by omega
          have h6 := hle.2.2.2
          rw [eL] at h6
          refine bX4_layFrom_40 ⟨by omega, by omega, zi _, by rw [e20]; exact zi _, fun _ => h χ a ?_, fun q => absurd (by rw [e20]; exact lt) q⟩
          rw [if_neg (fun q => h6 (by omega) q.2)]
          exact g
        · have mk : s (32 + 3 * e + 2) = 0 := hle.2.2.1 e fe (by omega)
          refine ihr (e + 1) st1 χ (by omega) (by omega) (by omega) a i1 g (fun μ' a' g' => h μ' a' ?_)
          rw [if_pos ⟨by omega, mk⟩]
          exact g'
    have := hle.1
    refine loop (s 31 - 1 - first).toNat (first + 1) st μ (by omega) (by omega) (by omega) dfr.rf hi hdm hQ
