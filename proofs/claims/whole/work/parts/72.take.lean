/-! take, side by side -/
theorem lay.tr {μ μ' μ'' : zMem} (h : lay μ μ') (h' : lay μ' μ'') : lay μ μ'' := by
  have up : ∀ q : Nat, q < (gD μ).length → q < (gD μ').length := fun q hq => by
    have e := h.1 q hq
    rw [List.getElem?_eq_getElem hq] at e
    exact gd_lt e
  refine ⟨fun q hq => (h'.1 q (up q hq)).trans (h.1 q hq), fun q a hq => ?_⟩
  have x := h.2 q a hq
  have y := h'.2 q a (up q hq)
  exact ⟨y.1.trans x.1, y.2.trans x.2⟩
theorem app_r {α : Type} {l l' : List α} {k : Nat} : (l ++ l')[l.length + k]? = l'[k]? := by
  rw [List.getElem?_append_right (by omega), Nat.add_sub_cancel_left]
theorem scf.lay {μ μ' : zMem} (h : scf μ μ') : lay μ μ' := lay_of h.1 (fun q a => ⟨h.2.2.2 q (by omega), by rw [h.2.1]⟩)
theorem pX4_describeBest {d : Nat} {Q : Nat → zMem → Prop} {μ : zMem} {s : Int → Int} {b v : Int} {es : List Int} (hw : wf s) (b0 : 1 ≤ b) (b1 : b ≤ 12) (sh : zSh SS μ) (hs : SP s b μ) (hv : gI μ 11 17 = v) (h16 : gI μ 11 16 = (es.length : Int)) (h29 : pth es 29 μ) (ok : okAll s b es 0 (s 78) 0 c0 c0) (hne : es ≠ [])
    (hQ : ∀ μ', lay μ μ' → (∀ j, j < 65 → gR μ' j = gR μ j ∧ gL μ' j = gL μ j) → (∀ j, j < 65 → ¬ (24 ≤ j ∧ j ≤ 28) → gI μ' j = gI μ j) → LYT (gD μ).length (takS s b v es) μ' → Q (gD μ).length μ') : kX4_describeBest (d + 3) b μ Q := by
  have hn := hw.2.2.1
  have htop := hw.2.2.2.2.2.2.2.2.1
  have hinc := okAll_inc _ _ _ _ _ _ ok
  have len := inc_le es 0 hinc
  have l64 := gd_lt (sh.2 64 _ dd_64)
  refine bX4_describeBest ⟨by decide, by decide, fun q hq => ⟨by decide, by decide, ?_⟩⟩
  rw [gI_aDn (show (11 : Nat) ≠ (gD μ).length by omega), gI_aDn (show (16 : Nat) ≠ (gD μ).length by omega), h16, hs.1.1.1]
  rw [← hq] at hQ
  have q65 : 65 ≤ q := by omega
  refine pX2_init (p0 := q) (by rw [gD_aD, List.length_append, ← hq]; rfl) (by rw [gD_aD, hq]; simp) q65 ?_
  intro μ7 i1 i2 i3 i4 i5 i6 i7
  refine ⟨by decide, by decide, ?_⟩
  rw [gD_aD] at i1
  have j2 : ∀ j, j < q → gI μ7 j = gI μ j ∧ gL μ7 j = gL μ j ∧ gR μ7 j = gR μ j := fun j hj => by
    have := i2 j hj
    rw [gI_aDn (by omega), gL_aDn (by omega), gR_aDn (by omega)] at this
    exact this
  have ql : (gD μ ++ [(2, 0)]).length = q + 1 := by rw [List.length_append, ← hq]; rfl
  have dd0 : ∀ j : Nat, j < q → (gD μ7)[j]? = (gD μ)[j]? := fun j hj => by
    rw [i1, List.append_assoc, List.getElem?_append_left (by omega)]
  have dq : (gD μ7)[q]? = some (2, 0) ∧ (gD μ7)[q + 1]? = some (9, 5) ∧ (gD μ7)[q + 2]? = some (9, 98) ∧ (gD μ7)[q + 3]? = some (9, 70) := by
    rw [i1, List.append_assoc, hq]
    exact ⟨(app_r (k := 0)).trans rfl, (app_r (k := 1)).trans rfl, (app_r (k := 2)).trans rfl, (app_r (k := 3)).trans rfl⟩
  generalize hκ : cI μ7 29 0 24 0 ((15 : Nat) : Int) = κ
  have κD : gD κ = gD μ7 := by rw [← hκ]; rfl
  have κR : gR κ = gR μ7 := by rw [← hκ]; rfl
  have κL : gL κ = gL μ7 := by rw [← hκ]; rfl
  have κq : ∀ j, j ≠ 24 → gI κ j = gI μ7 j := fun j h => by rw [← hκ, gI_cIn h]
  have κ24 : ∀ x, 0 ≤ x → x < 15 → gI κ 24 x = gI μ 29 x := fun x a c => by
    rw [← hκ, gI_cI, if_pos rfl, if_pos ⟨by omega, by omega⟩, (j2 29 (by omega)).1, show 0 + (x - 0) = x by omega]
  have κ65 : ∀ j, j < 65 → j ≠ 24 → gI κ j = gI μ j := fun j a c => (κq j c).trans (j2 j (by omega)).1
  have sp : SP s b κ := hs.of (fun j a c => κ65 j (by omega) (by omega)) (fun i a c => by rw [κ65 11 (by decide) (by decide)])
  have h24 : ∀ k : Nat, k ≤ es.length → gI κ 24 (k : Int) = lnS es 0 k := fun k hk => by
    rw [κ24 k (by omega) (by omega)]
    exact pth_S h29 k hk
  obtain ⟨pf', p1, p2, p3, p4, p5, p6, p7, p8, p9, p10, p11⟩ := PI_fin hw b0 b1 es 0 0 (s 78) 0 0 c0 c0 c0 c0 ok (PI_0 hw)
  rw [sp.2.2.1]
  refine desc1 (N := 98) hw b0 b1 q65 (by omega) (by decide) (by decide) es 0 0 (s 78) 0 0 c0 c0 c0 c0 κ ok (PI_0 hw) sp (by rw [κD, dd0 27 (by omega)]; exact sh.2 27 _ dd_27) (by rw [κD]; exact dq.1) (by rw [κD]; exact dq.2.2.1) (by omega) (by rw [κR]; exact i6) (fun k hk => by rw [Int.zero_add]; exact h24 k hk) (fun h => absurd h (by decide)) (by rw [κ65 11 (by decide) (by decide), h16]; omega) (fun i a c => by omega) (fun i a c => by omega) (fun i a c => by omega) (by omega) (by omega) ?_
  intro χ m1 m2 m3 m4 m5 m6 m7 m8
  rw [Int.zero_add]
  have χj : ∀ j, ¬ (25 ≤ j ∧ j ≤ 28) → j ≠ q + 1 → j ≠ q + 2 → j ≠ q + 3 → gI χ j = gI κ j := m1.2.2.2
  have χ65 : ∀ j, j < 65 → ¬ (24 ≤ j ∧ j ≤ 28) → gI χ j = gI μ j := fun j a c => (χj j (by omega) (by omega) (by omega) (by omega)).trans (κ65 j a (by omega))
  have χD : gD χ = gD μ7 := m1.1.trans κD
  have χR : gR χ = gR μ7 := m1.2.1.trans κR
  have χL : gL χ = gL μ7 := m1.2.2.1.trans κL
  have χq : gI χ q = gI μ7 q := (χj q (by omega) (by omega) (by omega) (by omega)).trans (κq q (by omega))
  refine desc2 (N := 70) hw b0 b1 q65 (by decide) (by decide) hinc (by rw [χ65 11 (by decide) (by decide)]; exact h16) (by rw [χD, dd0 28 (by omega)]; exact sh.2 28 _ dd_28) (by rw [χD]; exact dq.1) (by rw [χD]; exact dq.2.1) (by rw [χD]; exact dq.2.2.2) (by omega) (by omega) (by rw [χR]; exact i5) (by rw [χR]; exact i7) (fun k hk => by rw [χj 24 (by omega) (by omega) (by omega) (by omega)]; exact h24 k hk) (fun i a c => (m6 i a c).1) (fun i a c => by
    have h := hs.1.1.2 i a c
    rw [χ65 17 (by decide) (by decide), χ65 18 (by decide) (by decide)]
    exact ⟨h.1, h.2.1⟩) (fun i a c e => ((m6 i a c).2 e).1) (fun i a c e => ((m6 i a c).2 e).2) p9 ?_
  intro ω w1 w2 w3 w4 w5 w6 w7 w8 w9 w10
  have ωj : ∀ j, j < 65 → ¬ (24 ≤ j ∧ j ≤ 28) → gI ω j = gI μ j := fun j a c => (w4 j (by omega) (by omega) (by omega)).trans (χ65 j a c)
  have ωD : gD ω = gD μ7 := w1.trans χD
  have ωR : gR ω = gR μ7 := w2.trans χR
  have ωL : gL ω = gL μ7 := w3.trans χL
  have ωq : gI ω q = gI μ7 q := (w4 q (by omega) (by omega) (by omega)).trans χq
  obtain ⟨t82, t83, t84, t85, t86, t87, t256⟩ := takT (s := s) (b := b) (v := v) (es := es)
  refine hQ ω ⟨fun j hj => by rw [ωD]; exact dd0 j (by omega), fun j a hj => ⟨?_, by rw [ωR]; exact (j2 j (by omega)).2.2⟩⟩ (fun j hj => ⟨by rw [ωR]; exact (j2 j (by omega)).2.2, by rw [ωL]; exact (j2 j (by omega)).2.1⟩) ωj ?_
  · rw [w4 j (by omega) (by omega) (by omega), χj j (by omega) (by omega) (by omega) (by omega), κq j (by omega)]
    exact (j2 j (by omega)).1
  · refine ⟨by rw [ωD]; exact dq.1, by rw [ωD]; exact dq.2.1, ?_, ?_, by rw [ωR]; exact i5, by rw [ωR]; exact i6, by rw [ωR]; exact i7, by rw [ωq, i3, t84], by rw [ωq, i4, t256], fun i a c => ?_, fun i a c => ?_, fun i a c => ?_, q65⟩
    · rw [ωD]
      exact dq.2.2.1
    · rw [ωD]
      exact dq.2.2.2
    · have : i = 0 ∨ i = 1 ∨ i = 2 ∨ i = 3 ∨ i = 4 := by omega
      rcases this with h | h | h | h | h <;> subst h
      · rw [show (83 : Int) + 0 = 83 from rfl, t83]
        exact w6
      · rw [show (83 : Int) + 1 = 84 from rfl, t84, w7, χq]
        exact i3
      · rw [show (83 : Int) + 2 = 85 from rfl, t85, w8, χ65 11 (by decide) (by decide)]
        exact hv
      · rw [show (83 : Int) + 3 = 86 from rfl, t86]
        exact w9
      · rw [show (83 : Int) + 4 = 87 from rfl, t87, w10, χ65 11 (by decide) (by decide), hs.2.2.2.1]
        have := FR_V (s := s) (b := b) es 0 0 (s 78) c0 hne
        rw [Int.zero_add] at this
        exact this.symm
    · rw [t84] at c
      rw [takV (by omega) a c, w4 (q + 2) (by omega) (by omega) (by omega)]
      exact m8 i (by omega) (by omega)
    · rw [t256] at c
      rw [takW hn.2 a c]
      exact w5 i a c
theorem bestOf_mem {x : Int × List Int} (L : List (Int × List Int)) : ∀ o, L.foldl bstep o = some x → x ∈ L ∨ o = some x := by
  induction L with
  | nil => intro o h; exact Or.inr h
  | cons y L ih =>
    intro o h
    rw [List.foldl_cons] at h
    rcases ih _ h with g | g
    · exact Or.inl (List.mem_cons_of_mem _ g)
    · cases o with
      | none =>
        have : y = x := Option.some.inj g
        rw [this]
        exact Or.inl List.mem_cons_self
      | some e0 =>
        have g' : (if y.1 < e0.1 then some y else some e0) = some x := g
        split at g'
        · have : y = x := Option.some.inj g'
          rw [this]
          exact Or.inl List.mem_cons_self
        · exact Or.inr g'
theorem best_ok {s : Int → Int} {b v : Int} {es : List Int} (hw : wf s) (b0 : 1 ≤ b) (b1 : b ≤ 12) (h : bestOf (CLs s b) = some (v, es)) : okAll s b es 0 (s 78) 0 c0 c0 ∧ es ≠ [] ∧ 0 ≤ v ∧ v ≤ 39000 := by
  have hn := hw.2.2.1
  have hm : (v, es) ∈ CLs s b := by
    rcases bestOf_mem (CLs s b) none h with g | g
    · exact g
    · cases g
  have hb := CLs_bd hw b0 b1 _ hm
  by_cases il : isL s b = true
  · have n0 : 0 < s 31 := by
      unfold isL at il
      simp only [Bool.and_eq_true, decide_eq_true_eq] at il
      exact il.1
    unfold CLs at hm
    rw [if_pos il, comp_codes, List.mem_filterMap] at hm
    obtain ⟨c, _, hc⟩ := hm
    have ok := evc_ok _ 0 (s 78) 0 c0 c0 v es (by omega) hc
    refine ⟨ok, fun q => ?_, hb⟩
    subst q
    have : (0 : Int) = s 31 := ok
    omega
  · rw [CLs_no il] at hm
    cases hm
/-- as cop.mod, where the search's own places change and a layout may be new -/
theorem cop.grow {f : Int → Nat} {n : Int} {s s' : Int → Int} {μ μr μ1 : zMem} (n0 : 0 ≤ n) (n1 : n ≤ 4) (c : cop f n s s μ μr) (cl : lay μr μ1) (fr : ∀ q, q < 65 → q ≠ 1 → gR μ1 q = gR μr q) (fl : ∀ q, q < 65 → gL μ1 q = gL μr q) (fi : ∀ q, q < 65 → ¬ (11 ≤ q ∧ q ≤ 29) → gI μ1 q = gI μr q) (hx : XS 1 s' μ1) (hb : BND s' μ1) : cop f n s s' μ μ1 := by
  obtain ⟨f', n', c1, c2, c3, c4, c5, c6, c7, c8, c9, c10, c11⟩ := c
  have hn : 1 ≤ n' ∧ n' ≤ 4 := by
    rw [c1]
    split <;> omega
  have up : ∀ {j : Int} {g : Int → Int}, 0 ≤ j → j < 4 → XS (f' j) g μr → XS (f' j) g μ1 := fun {j g} a b hx => by
    have hs := hst_r c2 a b
    exact hx.fr cl (fun q x y => fi q (by omega) (by omega)) (fl _ (by omega)) (by rw [fr _ (by omega) (by omega)])
  exact ⟨f', n', c1, ⟨fun j a b => ⟨by rw [fr 7 (by omega) (by omega)]; exact (c2.1 j a b).1, (c2.1 j a b).2⟩, c2.2⟩, by rw [fi 0 (by omega) (by omega)]; exact c3, up (by omega) (by omega) c4, fun j h a b hx => up a (by omega) (c5 j h a b hx), hx, hb, by rw [fi 2 (by omega) (by omega)]; exact c8, by rw [fi 0 (by omega) (by omega)]; exact c9, by rw [fi 8 (by omega) (by omega)]; exact c10, fun q a b => by rw [fi q (by omega) (by omega)]; exact c11 q a b⟩
theorem sim_take {d e : Nat} {B x1 : Int} {μ : zMem} (hB : B ≤ 2000000000) (hx : zIn x1) (h : SIM B μ) : kX7_take (d + 35) x1 μ (fun r μ1 => kX8_take (e + 7) x1 μ1 (twin (B + 2) r)) := by
  have S := h.up
  obtain ⟨s, hh, n, f, H⟩ := h
  refine Cl_sh (fun sh => ?_)
  have hw := H.1.2.1
  have hn := hw.2.2.1
  have hlim := hw.2.2.2.2.2.2.2.2.2.2.2
  refine bX7_take ⟨by decide, by decide, cin hx (zi _) (zi _) (fun g => pX8_take H.pre hx (fun _ => ⟨zi _, zi _, rfl, S⟩) (fun q => absurd q g) (fun q => absurd q g)) (fun g => ?_)⟩
  refine H.rem ?_
  intro μr c r
  have c6 : XS 1 s μr := r.xs H.2.2.2.2.1
  have a6 := c6.2.2.2.2.2.1
  have c' := c
  obtain ⟨f', n', k1, k2, k3, k4, k5, k6, k7, k8, k9, k10, k11⟩ := c'
  have hB2 := H.2.2.2.2.2.2.1
  have sch : SCH s μr := ⟨hw, ⟨c6.2.2.2.1, c6.2.2.2.2.1, fun i a c => a6 i (by omega) (by omega)⟩, c6.2.2.1, k7, zi _, by rw [r.1]; exact d27 sh⟩
  have e60 : gI μr 6 0 = s 74 := a6 0 (by omega) (by omega)
  have e67 : gI μr 6 7 = s 81 := a6 7 (by omega) (by omega)
  -- nothing is found
  have no : ∀ ζ : zMem, scf μr ζ → BND s ζ → (takB s x1 = -1 ∨ CLs s (takB s x1) = []) → kX8_take (e + 7) x1 ζ (twin (B + 2) (-1)) := by
    intro ζ a b hno
    have cc : cop f n s s μ ζ := c.grow H.2.1.1 H.2.1.2.1 a.lay (fun q _ _ => by rw [a.2.1]) (fun q _ => by rw [a.2.2.1]) (fun q _ z => a.2.2.2 q z) (c6.fr a.lay (fun q x y => a.2.2.2 q (by omega)) (by rw [a.2.2.1]) (by rw [a.2.1])) b
    refine pX8_take (cc.pre H) hx (fun q => absurd g q) (fun _ _ μ' m => ⟨zi _, zi _, rfl, H.op cc m hw H.1.2.2⟩) (fun _ hb v es ho μ' m => ?_)
    rcases hno with z | z
    · exact absurd z hb
    · rw [z] at ho
      cases ho
  -- from the base on
  have go : ∀ (b : Int) (ξ : zMem), scf μr ξ → BND s ξ → b = takB s x1 → 1 ≤ b → b ≤ 12 → kX4_findBest (d + 34) b ξ (fun (r16 : Int) (μ15 : zMem) => (zIn r16) ∧ ((r16 = (-1) → (kX8_take (e + 7) x1 μ15 (twin (B + 2) r16))) ∧ (¬ (r16 = (-1)) → ((0 + 4 ≤ 4) ∧ ((0 + 178 ≤ 178) ∧ (kX4_describeBest (d + 34) b μ15 (fun (r22 : Nat) (μ21 : zMem) => ((0 + 4) ≤ 4) ∧ (((0 + 178) ≤ 178) ∧ (kX8_take (e + 7) x1 (sR μ21 1 4 (some r22)) (twin (B + 2) r16))))))))))  := by
    intro b ξ a hb eb b0 b1
    refine pX4_findBest b0 b1 (sch.scf a hb) (by rw [a.2.2.2 6 (by omega)]; exact e60) (by rw [a.2.2.2 6 (by omega)]; exact e67) ?_
    intro ζ a2 hb2 fnd
    have a3 := a.tr a2
    refine ⟨costV_z hw b0 b1, fun hc => ?_, fun hc => ⟨by decide, by decide, ?_⟩⟩
    · rw [hc]
      refine no ζ a3 hb2 (Or.inr ?_)
      rw [← eb]
      unfold costV at hc
      cases ho : bestOf (CLs s b) with
      | none => exact bestOf_none.mp ho
      | some x =>
        obtain ⟨v, es⟩ := x
        rw [ho] at hc
        have hc' : v = -1 := hc
        have := (best_ok hw b0 b1 ho).2.2
        omega
    · cases ho : bestOf (CLs s b) with
      | none =>
        unfold costV at hc
        rw [ho] at hc
        exact absurd rfl hc
      | some x =>
        obtain ⟨v, es⟩ := x
        have cv : costV s b = v := by
          unfold costV
          rw [ho]
        rw [cv]
        have bo := best_ok hw b0 b1 ho
        obtain ⟨f1, f2, f3, f4⟩ := fnd v es ho
        refine Cl_sh (fun sh2 => ?_)
        refine pX4_describeBest hw b0 b1 sh2 f1 f2 f3 f4 bo.1 bo.2.1 ?_
        intro ω o1 o2 o3 o4
        refine ⟨by decide, by decide, ?_⟩
        generalize hq : (gD ζ).length = q at o4 ⊢
        have oi : ∀ j, j < 65 → ¬ (11 ≤ j ∧ j ≤ 29) → gI (sR ω 1 4 (some q)) j = gI μr j := fun j x y => by
          rw [gI_sR, o3 j x (by omega)]
          exact a3.2.2.2 j y
        have oL : ∀ j, j < 65 → gL (sR ω 1 4 (some q)) j = gL μr j := fun j x => by
          rw [gL_sR, (o2 j x).2, a3.2.2.1]
        have ol : lay ω (sR ω 1 4 (some q)) := lay_of rfl (fun j hj => ⟨rfl, by
          funext i
          rw [gR_sR, if_neg (by omega)]⟩)
        have bnd' : BND (takS s b v es) (sR ω 1 4 (some q)) := by
          refine BND_c (fun x y => freeB_c hw (fun i p q => (takO i (by omega)).symm) x y) (fun r x y => ?_)
          have := hb2 r x y
          rw [gI_sR, o3 15 (by decide) (by decide), o3 2 (by decide) (by decide)]
          refine ⟨this.1, this.2.1, fun z row w1 w2 => ?_⟩
          rw [gI_sR, o3 13 (by decide) (by decide), o3 14 (by decide) (by decide)]
          exact this.2.2 z row w1 w2
        have xs' : XS 1 (takS s b v es) (sR ω 1 4 (some q)) := by
          obtain ⟨x1', x2', x3', x4', x5', x6', x7'⟩ := c6
          have h0 := hw.1
          refine ⟨by rw [oi 2 (by decide) (by decide), takO 0 (by decide)]; exact x1', fun i p z => ?_, fun y hy => ?_, by rw [oi 1 (by decide) (by decide), takO 31 (by decide)]; exact x4', fun i p z => ?_, fun i p z => ?_, Or.inr ⟨takT.1, q, ?_, o4.lay ol⟩⟩
          · rw [takO 0 (by decide)] at z
            rw [oi 3 (by decide) (by decide), takO _ (by omega)]
            exact x2' i p z
          · rw [oL 4 (by decide)]
            exact mb_congr (x3' y hy) (fun x _ => freeB_c hw (fun i p q => (takO i (by omega)).symm) x y)
          · rw [takO 31 (by decide)] at z
            rw [oi 5 (by decide) (by decide), takO _ (by omega)]
            exact x5' i p z
          · rw [oi 6 (by decide) (by decide), takO _ (by omega)]
            exact x6' i p z
          · rw [gR_sR, if_pos ⟨rfl, rfl⟩]
        have cc : cop f n s (takS s b v es) μ (sR ω 1 4 (some q)) := c.grow H.2.1.1 H.2.1.2.1 ((a3.lay.tr o1).tr ol) (fun j x y => by
          funext i
          rw [gR_sR, if_neg (fun z => y z.1), (o2 j x).1, a3.2.1]) oL oi xs' bnd'
        have hv : zIn v := zi _ (by have := bo.2.2; omega)
        refine pX8_take (cc.pre H) hx (fun q => absurd g q) (fun _ hno => ?_) (fun _ _ v' es' ho' μ' m => ?_)
        · rw [← eb] at hno
          rcases hno with z | z
          · omega
          · rw [z] at ho
            cases ho
        · rw [← eb] at ho' m
          rw [ho] at ho'
          have hx' := Option.some.inj ho'
          have h1 : v = v' := congrArg Prod.fst hx'
          have h2 : es = es' := congrArg Prod.snd hx'
          subst h1
          subst h2
          exact ⟨hv, hv, rfl, H.op cc m (takWf hw) (takWp hw b0 b1 bo.1 bo.2.1 hv)⟩
  refine ⟨hx, fun h0 => ?_, fun h0 => ⟨fun h1 => by omega, fun _ => ?_⟩⟩
  · rw [e67]
    refine pX7_greatestBase sch e60 hlim.1 hlim.2 ?_
    intro ξ a hb
    rw [fu_same]
    have fb := FITV_bd s 12
    have tb : takB s x1 = FITV s 12 := by
      unfold takB
      rw [if_pos h0]
    exact ⟨zi _, fun hm => no ξ a hb (Or.inl (tb.trans hm)), fun hm => go _ ξ a hb tb.symm (by omega) (by omega)⟩
  · have tb : takB s x1 = x1 := by
      unfold takB
      rw [if_neg h0]
    exact go x1 μr scf.rf k7 tb.symm (by omega) (by omega)
