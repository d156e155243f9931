/-! calls that ask, side by side: the searching ones -/
theorem scf.csc {μ μ' : zMem} (h : scf μ μ') : csc μ μ' := ⟨lay_of h.1 (fun q a => ⟨h.2.2.2 q (by omega), by rw [h.2.1]⟩), fun q _ => by rw [h.2.1], h.2.2.1, fun q a => by
  by_cases g : 11 ≤ q ∧ q ≤ 29
  · omega
  · exact h.2.2.2 q g⟩
theorem BND_c {s s' : Int → Int} {μ : zMem} (h : ∀ x y, freeB s x y = freeB s' x y) (hb : BND s μ) : BND s' μ := fun r x y => by
  have := hb r x y
  refine ⟨this.1, this.2.1, fun q row z w => ?_⟩
  have g := this.2.2 q row z w
  have c := SL_c h row r
  rw [← c.1, ← c.2]
  exact g
theorem SCH.scf {s : Int → Int} {μ μ' : zMem} (H : SCH s μ) (h : scf μ μ') (hb : BND s μ') : SCH s μ' := by
  obtain ⟨a, c, e, f, g, k⟩ := H
  refine ⟨a, ⟨by rw [h.2.2.2 1 (by omega)]; exact c.1, by rw [h.2.2.2 5 (by omega)]; exact c.2.1, by rw [h.2.2.2 6 (by omega)]; exact c.2.2⟩, fun y hy => by rw [h.2.2.1]; exact e y hy, hb, by rw [h.2.2.2 2 (by omega)]; exact g, by rw [h.1]; exact k⟩
theorem fu_free {s : Int → Int} {i v : Int} (hw : wf s) (hi : 31 ≤ i) (x y : Int) : freeB s x y = freeB (fu s i v) x y := freeB_c hw (fun j a c => (fu_o (by omega)).symm) x y
theorem SCH.efu {s : Int → Int} {μ : zMem} {i v : Int} (H : SCH s μ) (h : (i = 74 ∧ 0 ≤ v ∧ v ≤ 4) ∨ (i = 81 ∧ 1 ≤ v ∧ v ≤ 9)) : SCH (fu s i v) μ := by
  obtain ⟨a, c, e, f, g, k⟩ := H
  have hn := a.2.2.1
  have e31 : fu s i v 31 = s 31 := fu_o (by omega)
  refine ⟨wf_fu a h, ⟨by rw [e31]; exact c.1, fun j x y => ?_, fun j x y => ?_⟩, e.c (fu_free a (by omega)), BND_c (fu_free a (by omega)) f, g, k⟩
  · rw [e31] at y
    rw [fu_o (by omega)]
    exact c.2.1 j x y
  · rw [fu_o (by omega)]
    exact c.2.2 j x y
theorem SCH.of {B : Int} {s : Int → Int} {h : Int → Int → Int} {n : Int} {f : Int → Nat} {μ : zMem} (H : SM B s h n f μ) (hB : B ≤ 2000000000) (hD : (gD μ)[27]? = some (9, 14)) : SCH s μ ∧ gI μ 6 0 = s 74 ∧ gI μ 6 7 = s 81 := by
  obtain ⟨h1, h2, h3, h4, h5, h6, h7, h8⟩ := H
  have a6 := h5.2.2.2.2.2.1
  exact ⟨⟨h1.2.1, ⟨h5.2.2.2.1, h5.2.2.2.2.1, fun i a c => a6 i (by omega) (by omega)⟩, h5.2.2.1, h6, zi _, hD⟩, a6 0 (by omega) (by omega), a6 7 (by omega) (by omega)⟩
theorem hasFu {d : Nat} {Q : Int → zMem → Prop} {μ : zMem} {s : Int → Int} {b i v st li : Int} (b0 : 1 ≤ b) (b1 : b ≤ 12) (H : SCH s μ) (h : (i = 74 ∧ 0 ≤ v ∧ v ≤ 4) ∨ (i = 81 ∧ 1 ≤ v ∧ v ≤ 9)) (e1 : fu s i v 74 = st) (e2 : fu s i v 81 = li) (hQ : ∀ μ', scf μ μ' → BND s μ' → Q (if (CLs (fu s i v) b).isEmpty = true then 0 else 1) μ') : kX4_hasLayout (d + 33) b st li μ Q := by
  rw [← e1, ← e2]
  exact pX4_hasLayout b0 b1 (H.efu h) (fun μ' a c => hQ μ' a (BND_c (fun x y => (fu_free H.1 (by omega) x y).symm) c))
theorem pX7_greatestBase {d : Nat} {Q : Int → zMem → Prop} {μ : zMem} {s : Int → Int} {li : Int} (H : SCH s μ) (h60 : gI μ 6 0 = s 74) (l0 : 1 ≤ li) (l1 : li ≤ 9) (hQ : ∀ μ', scf μ μ' → BND s μ' → Q (FITV (fu s 81 li) 12) μ') : kX7_greatestBase (d + 34) li μ Q := by
  refine bX7_greatestBase ?_
  have loop : ∀ (n : Nat) (ξ : zMem), n ≤ 12 → scf μ ξ → BND s ξ → (∀ μ', scf μ μ' → BND s μ' → Q (FITV (fu s 81 li) n) μ') → zX7_greatestBase_3 (d + 33) Q li (n : Int) ξ := by
    intro n
    induction n with
    | zero =>
      intro ξ _ a c hq
      exact bX7_greatestBase_3 ⟨zi _, fun _ => hq ξ a c, fun q => absurd (by omega) q⟩
    | succ n ih =>
      intro ξ hn a c hq
      refine bX7_greatestBase_3 ⟨zi _, fun q => absurd q (by omega), fun _ => ?_⟩
      rw [a.2.2.2 6 (by omega), h60]
      refine hasFu (i := 81) (v := li) (by omega) (by omega) (H.scf a c) (by omega) (fu_o (by decide)) fu_s ?_
      intro μ' g1 g2
      by_cases e : (CLs (fu s 81 li) ((n + 1 : Nat) : Int)).isEmpty = true
      · rw [if_pos e]
        refine ⟨zi _, fun _ => ?_, fun q => absurd rfl q⟩
        rw [show ((n + 1 : Nat) : Int) + -1 = (n : Int) by omega]
        refine ih μ' (by omega) (a.tr g1) g2 (fun μ'' w1 w2 => ?_)
        have := hq μ'' w1 w2
        unfold FITV at this
        rw [if_pos e] at this
        exact this
      · rw [if_neg e]
        refine ⟨zi _, fun q => absurd q (by decide), fun _ => ?_⟩
        have := hq μ' (a.tr g1) g2
        unfold FITV at this
        rw [if_neg e] at this
        exact this
  exact loop 12 μ (by omega) scf.rf H.2.2.2.1 hQ
/-- both answers, and the two go on together -/
abbrev twin (B : Int) (r : Int) : Int → zMem → Prop := fun r' μ' => zIn r ∧ zIn r' ∧ r = r' ∧ SIM B μ'
theorem d27 {μ : zMem} (h : zSh SS μ) : (gD μ)[27]? = some (9, 14) := h.2 27 _ dd_27
theorem costV_z {s : Int → Int} {b : Int} (hw : wf s) (b0 : 1 ≤ b) (b1 : b ≤ 12) : zIn (costV s b) := by
  unfold costV
  have hm : ∀ (L : List (Int × List Int)) (o : Option (Int × List Int)), (∀ x ∈ L, 0 ≤ x.1 ∧ x.1 ≤ 39000) → (∀ x, o = some x → 0 ≤ x.1 ∧ x.1 ≤ 39000) → ∀ x, L.foldl bstep o = some x → 0 ≤ x.1 ∧ x.1 ≤ 39000 := by
    intro L
    induction L with
    | nil => intro o _ h x hx; exact h x hx
    | cons y L ih =>
      intro o hl h x hx
      rw [List.foldl_cons] at hx
      refine ih (bstep o y) (fun z hz => hl z (List.mem_cons_of_mem _ hz)) (fun z hz => ?_) x hx
      cases o with
      | none =>
        have := Option.some.inj hz
        rw [← this]
        exact hl y List.mem_cons_self
      | some e0 =>
        have hz' : (if y.1 < e0.1 then some y else some e0) = some z := hz
        split at hz'
        · have := Option.some.inj hz'
          rw [← this]
          exact hl y List.mem_cons_self
        · have := Option.some.inj hz'
          rw [← this]
          exact h e0 rfl
  cases hb : bestOf (CLs s b) with
  | none =>
    show zIn (-1)
    exact zi _
  | some e =>
    have := hm (CLs s b) none (CLs_bd hw b0 b1) (fun x hx => by cases hx) e hb
    show zIn e.1
    exact zi _
theorem sim_cost {d e : Nat} {B x1 : Int} {μ : zMem} (hB : B ≤ 2000000000) (hx : zIn x1) (h : SIM B μ) : kX7_cost (d + 34) x1 μ (fun r μ1 => kX8_cost (e + 6) x1 μ1 (twin B r)) := by
  obtain ⟨s, hh, n, f, H⟩ := h
  refine Cl_sh (fun sh => ?_)
  have HS := SCH.of H hB (d27 sh)
  refine bX7_cost (cin hx (zi _) (zi _) (fun g => pX8_cost H.1.1 H.1.2.1 hx (fun _ => ⟨zi _, zi _, rfl, s, hh, n, f, H⟩) (fun q => absurd q g)) (fun g => ?_))
  refine pX4_findBest g.1 g.2 HS.1 HS.2.1 HS.2.2 ?_
  intro μ1 a c _
  have H1 := H.csc a.csc c
  refine pX8_cost H1.1.1 H1.1.2.1 hx (fun q => absurd g q) (fun _ μ' m => ⟨costV_z H.1.2.1 g.1 g.2, costV_z H.1.2.1 g.1 g.2, rfl, s, hh, n, f, H1.msc m⟩)
theorem sim_allowed {d e : Nat} {B x1 : Int} {μ : zMem} (hB : B ≤ 2000000000) (hx : zIn x1) (h : SIM B μ) : kX7_allowed (d + 34) x1 μ (fun r μ1 => kX8_allowed (e + 6) x1 μ1 (twin B r)) := by
  obtain ⟨s, hh, n, f, H⟩ := h
  refine Cl_sh (fun sh => ?_)
  have HS := SCH.of H hB (d27 sh)
  refine bX7_allowed (cin hx (zi _) (zi _) (fun g => pX8_allowed H.1.1 H.1.2.1 hx (fun _ => ⟨zi _, zi _, rfl, s, hh, n, f, H⟩) (fun q => absurd q g)) (fun g => ?_))
  refine pX4_countLayouts g.1 g.2 HS.1 HS.2.1 HS.2.2 ?_
  intro μ1 a c
  have H1 := H.csc a.csc c
  have hl := CLs_len (b := x1) H.1.2.1
  refine pX8_allowed H1.1.1 H1.1.2.1 hx (fun q => absurd g q) (fun _ μ' m => ⟨zi _, zi _, rfl, s, hh, n, f, H1.msc m⟩)
theorem fu_same {s : Int → Int} {i : Int} : fu s i (s i) = s := by
  funext j
  unfold fu
  by_cases h : j = i
  · rw [if_pos h, h]
  · rw [if_neg h]
theorem sim_fit {d e : Nat} {B : Int} {μ : zMem} (hB : B ≤ 2000000000) (h : SIM B μ) : kX7_fit (d + 35) μ (fun r μ1 => kX8_fit (e + 7) μ1 (twin B r)) := by
  obtain ⟨s, hh, n, f, H⟩ := h
  refine Cl_sh (fun sh => ?_)
  have HS := SCH.of H hB (d27 sh)
  have hl := H.1.2.1.2.2.2.2.2.2.2.2.2.2.2
  refine bX7_fit ?_
  rw [HS.2.2]
  refine pX7_greatestBase HS.1 HS.2.1 hl.1 hl.2 ?_
  intro μ1 a c
  have H1 := H.csc a.csc c
  have fb := FITV_bd s 12
  rw [fu_same]
  exact pX8_fit H1.1.1 H1.1.2.1 (fun μ' m => ⟨zi _, zi _, rfl, s, hh, n, f, H1.msc m⟩)
theorem WS_bd (s : Int → Int) (b : Int) : ∀ n : Nat, -1 ≤ WS s b n ∧ WS s b n ≤ n
  | 0 => by simp [WS]
  | n + 1 => by
    have := WS_bd s b n
    unfold WS
    split <;> omega
theorem sim_widestStep {d e : Nat} {B x1 : Int} {μ : zMem} (hB : B ≤ 2000000000) (hx : zIn x1) (h : SIM B μ) : kX7_widestStep (d + 34) x1 μ (fun r μ1 => kX8_widestStep (e + 6) x1 μ1 (twin B r)) := by
  obtain ⟨s, hh, n, f, H⟩ := h
  refine Cl_sh (fun sh => ?_)
  have HS := SCH.of H hB (d27 sh)
  refine bX7_widestStep (cin hx (zi _) (zi _) (fun g => pX8_widestStep H.1.1 H.1.2.1 hx (fun _ => ⟨zi _, zi _, rfl, s, hh, n, f, H⟩) (fun q => absurd q g)) (fun g => ?_))
  have fin : ∀ (v : Int) (ξ : zMem), v = WS s x1 5 → scf μ ξ → BND s ξ → kX8_widestStep (e + 6) x1 ξ (twin B v) := by
    intro v ξ hv a c
    have H1 := H.csc a.csc c
    have wb := WS_bd s x1 5
    refine pX8_widestStep H1.1.1 H1.1.2.1 hx (fun q => absurd g q) (fun _ μ' m => ⟨zi _, zi _, hv, s, hh, n, f, H1.msc m⟩)
  have loop : ∀ (k : Nat) (ξ : zMem), k ≤ 5 → scf μ ξ → BND s ξ → WS s x1 k = WS s x1 5 → zX7_widestStep_15 (d + 33) (fun r μ1 => kX8_widestStep (e + 6) x1 μ1 (twin B r)) x1 ((k : Int) - 1) ξ := by
    intro k
    induction k with
    | zero =>
      intro ξ _ a c hk
      exact bX7_widestStep_15 ⟨zi _, fun _ => fin (-1) ξ hk a c, fun q => absurd (by omega) q⟩
    | succ k ih =>
      intro ξ hk5 a c hk
      rw [show ((k + 1 : Nat) : Int) - 1 = (k : Int) by omega]
      refine bX7_widestStep_15 ⟨zi _, fun q => absurd q (by omega), fun _ => ?_⟩
      rw [a.2.2.2 6 (by omega), HS.2.2]
      refine hasFu (i := 74) (v := (k : Int)) g.1 g.2 (HS.1.scf a c) (by omega) fu_s (fu_o (by decide)) ?_
      intro μ' g1 g2
      by_cases ee : (CLs (fu s 74 (k : Int)) x1).isEmpty = true
      · rw [if_pos ee]
        refine ⟨zi _, fun _ => ?_, fun q => absurd rfl q⟩
        rw [show (k : Int) + -1 = (k : Int) - 1 by omega]
        refine ih μ' (by omega) (a.tr g1) g2 ?_
        rw [← hk]
        show _ = if _ then _ else _
        rw [if_pos ee]
      · rw [if_neg ee]
        refine ⟨zi _, fun q => absurd q (by decide), fun _ => fin _ μ' ?_ (a.tr g1) g2⟩
        rw [← hk]
        show _ = if _ then _ else _
        rw [if_neg ee]
  exact loop 5 μ (by omega) scf.rf HS.1.2.2.2.1 rfl
