/-! remember -/
def hSt (p : Nat) : Prop := p = 30 ∨ p = 36 ∨ p = 42 ∨ p = 48
theorem hSt.st {p : Nat} (h : hSt p) : isSt p := Or.inr h
/-- the four kept States, in their order -/
def HIS (μ : zMem) (f : Int → Nat) : Prop := (∀ j, 0 ≤ j → j < 4 → gR μ 7 j = some (f j) ∧ hSt (f j)) ∧ ∀ i j, 0 ≤ i → i < 4 → 0 ≤ j → j < 4 → i ≠ j → f i ≠ f j
/-- what 'remember' leaves alone -/
def rmf (μ μ' : zMem) : Prop := gD μ' = gD μ ∧ (∀ q, (q < 30 ∨ 54 ≤ q) → q ≠ 0 → gI μ' q = gI μ q) ∧ (∀ i, i ≠ 2 → gI μ' 0 i = gI μ 0 i) ∧ (∀ q, (q < 30 ∨ 54 ≤ q) → gL μ' q = gL μ q) ∧ ∀ q, (q < 30 ∨ 54 ≤ q) → q ≠ 7 → gR μ' q = gR μ q
theorem rmf.tr {μ μ' μ'' : zMem} (h : rmf μ μ') (h' : rmf μ' μ'') : rmf μ μ'' := ⟨h'.1.trans h.1, fun q a b => (h'.2.1 q a b).trans (h.2.1 q a b), fun i a => (h'.2.2.1 i a).trans (h.2.2.1 i a), fun q a => (h'.2.2.2.1 q a).trans (h.2.2.2.1 q a), fun q a b => (h'.2.2.2.2 q a b).trans (h.2.2.2.2 q a b)⟩
theorem rmf.lay {μ μ' : zMem} (h : rmf μ μ') : lay μ μ' := lay_of h.1 (fun q hq => ⟨h.2.1 q (by omega) (by omega), h.2.2.2.2 q (by omega) (by omega)⟩)
theorem rmf.xs {μ μ' : zMem} {s : Int → Int} (h : rmf μ μ') (hx : XS 1 s μ) : XS 1 s μ' := hx.fr h.lay (fun q a b => h.2.1 q (by omega) (by omega)) (h.2.2.2.1 4 (by omega)) (by rw [h.2.2.2.2 1 (by omega) (by omega)])
/-- one State is written, at place n of the history, and then it is counted -/
theorem keeps {d : Nat} {Q : zMem → Prop} {μ : zMem} {s : Int → Int} {f : Int → Nat} {n : Int} (n0 : 0 ≤ n) (n1 : n < 4) (hw : wf s) (hx : XS 1 s μ) (hh : HIS μ f) (hn : gI μ 0 2 = n) (hQ : ∀ μ', rmf μ μ' → HIS μ' f → gI μ' 0 2 = n + 1 → XS (f n) s μ' → (∀ j h, 0 ≤ j → j < 4 → j ≠ n → XS (f j) h μ → XS (f j) h μ') → Q μ') : kX5_copyFrom (d + 2) (f n) 1 μ (fun μ7 : zMem => Q (sI μ7 0 2 ((gI μ7 0 2) + 1))) := by
  have hf := hh.1 n n0 n1
  have hst : f n = 30 ∨ f n = 36 ∨ f n = 42 ∨ f n = 48 := hf.2
  refine pX5_copyFrom (s := s) hf.2.st isSt_1 (by omega) hw hx ?_
  intro ξ g1 g2 g3
  have e0 : gI ξ 0 = gI μ 0 := g1.2.2.1 0 (by omega)
  rw [e0, hn]
  have hl : lay μ ξ := lay_of g1.1 (fun q hq => ⟨g1.2.2.1 q (by omega), by funext j; exact g1.2.1 q j (by omega)⟩)
  have hl2 : lay ξ (sI ξ 0 2 (n + 1)) := lay_of rfl (fun q hq => ⟨gI_sIn (by omega), rfl⟩)
  have up : ∀ {p : Nat} {h : Int → Int}, hSt p → XS p h ξ → XS p h (sI ξ 0 2 (n + 1)) := fun {p h} hp hx => by
    have hp' : p = 30 ∨ p = 36 ∨ p = 42 ∨ p = 48 := hp
    exact hx.fr hl2 (fun q a b => gI_sIn (by omega)) rfl rfl
  refine hQ _ ⟨g1.1, fun q a b => by rw [gI_sIn b]; exact g1.2.2.1 q (by omega), fun i a => by rw [gI_sIo a, e0], fun q a => g1.2.2.2 q (by omega), fun q a b => by funext j; exact g1.2.1 q j (by omega)⟩ ⟨fun j a b => ⟨(g1.2.1 7 j (by omega)).trans (hh.1 j a b).1, (hh.1 j a b).2⟩, hh.2⟩ gI_sIs (up hf.2 g2) (fun j h a b c hx => up (hh.1 j a b).2 (hx.fr hl (fun q e1 e2 => ?_) ?_ ?_))
  · have h1 : f j = 30 ∨ f j = 36 ∨ f j = 42 ∨ f j = 48 := (hh.1 j a b).2
    have h2 := hh.2 j n a b n0 n1 c
    exact g1.2.2.1 q (by omega)
  · have h1 : f j = 30 ∨ f j = 36 ∨ f j = 42 ∨ f j = 48 := (hh.1 j a b).2
    have h2 := hh.2 j n a b n0 n1 c
    exact g1.2.2.2 _ (by omega)
  · have h2 := hh.2 j n a b n0 n1 c
    exact g1.2.1 _ _ (fun q => h2 q.1)
def rot (f : Int → Nat) : Int → Nat := fun j => if j = 3 then f 0 else f (j + 1)
theorem pX7_remember {d : Nat} {Q : zMem → Prop} {μ : zMem} {s : Int → Int} {f : Int → Nat} {n : Int} (n0 : 0 ≤ n) (n1 : n ≤ 4) (hw : wf s) (hx : XS 1 s μ) (hh : HIS μ f) (hn : gI μ 0 2 = n)
    (hQ : ∀ μ' f' n', n' = (if n = 4 then 4 else n + 1) → rmf μ μ' → HIS μ' f' → gI μ' 0 2 = n' → XS (f' (n' - 1)) s μ' → (∀ j h, 0 ≤ j → j < n' - 1 → XS (f (if n = 4 then j + 1 else j)) h μ → XS (f' j) h μ') → Q μ') : kX7_remember (d + 3) μ Q := by
  refine bX7_remember ?_
  rw [hn]
  refine ⟨zi _, fun hlt => ⟨n0, f n, (hh.1 n n0 hlt).1, (hh.1 n n0 hlt).2.st, ?_⟩, fun hge => ?_⟩
  · refine keeps n0 hlt hw hx hh hn ?_
    intro μ' g1 g2 g3 g4 g5
    refine hQ μ' f (n + 1) (by rw [if_neg (by omega)]) g1 g2 g3 (by rw [show n + 1 - 1 = n by omega]; exact g4) (fun j h a b hx' => ?_)
    rw [if_neg (by omega)] at hx'
    exact g5 j h a (by omega) (by omega) hx'
  · have h4 : n = 4 := by omega
    refine bX7_dropOldest ⟨f 0, (hh.1 0 (by omega) (by omega)).1, (hh.1 0 (by omega) (by omega)).2.st, ?_⟩
    have loop : ∀ (m : Nat) (j : Int) (ξ : zMem), j + m = 4 → 1 ≤ j → gD ξ = gD μ → gI ξ = gI μ → gL ξ = gL μ → (∀ q, q ≠ 7 → gR ξ q = gR μ q) → (∀ i, 0 ≤ i → i < j - 1 → gR ξ 7 i = some (f (i + 1))) → (∀ i, j - 1 ≤ i → i < 4 → gR ξ 7 i = some (f i)) →
        zX7_dropOldest_9 (d + 2) (fun μ8 : zMem => (0 ≤ (gI μ8 0 2)) ∧ (((gI μ8 0 2) < 4) ∧ (∃ q9 : Nat, (gR μ8 7 (gI μ8 0 2) = some q9) ∧ ((isSt q9) ∧ (kX5_copyFrom (d + 2) q9 1 μ8 (fun μ14 : zMem => Q (sI μ14 0 2 ((gI μ14 0 2) + 1)))))))) (f 0) j ξ := by
      intro m
      induction m with
      | zero =>
        intro j ξ hj j1 e1 e2 e3 e4 e5 e6
        refine bX7_dropOldest_9 (hh.1 0 (by omega) (by omega)).2.st ⟨zi _, fun _ => ?_, fun q => absurd (by omega) q⟩
        rw [gI_sIs]
        have e7 : gR (sI (sR ξ 7 3 (some (f 0))) 0 2 3) 7 3 = some (rot f 3) := by
          rw [gR_sI, gR_sR, if_pos ⟨rfl, rfl⟩]
          rfl
        have fr : rmf μ (sI (sR ξ 7 3 (some (f 0))) 0 2 3) := ⟨e1, fun q a b => by rw [gI_sIn b, gI_sR, e2], fun i a => by rw [gI_sIo a, gI_sR, e2], fun q _ => by rw [gL_sI, gL_sR, e3], fun q a b => by
          funext i
          rw [gR_sI, gR_sR, if_neg (fun z => b z.1), e4 q b]⟩
        have hh2 : HIS (sI (sR ξ 7 3 (some (f 0))) 0 2 3) (rot f) := by
          refine ⟨fun i a b => ?_, fun i k a b c e hne => ?_⟩
          · by_cases h3 : i = 3
            · rw [h3]
              refine ⟨e7, ?_⟩
              show hSt (f 0)
              exact (hh.1 0 (by omega) (by omega)).2
            · have er : rot f i = f (i + 1) := by
                unfold rot
                rw [if_neg h3]
              rw [er, gR_sI, gR_sR, if_neg (by omega), e5 i a (by omega)]
              exact ⟨rfl, (hh.1 (i + 1) (by omega) (by omega)).2⟩
          · unfold rot
            by_cases hi : i = 3
            · rw [if_pos hi, if_neg (by omega)]
              exact hh.2 0 (k + 1) (by omega) (by omega) (by omega) (by omega) (by omega)
            · rw [if_neg hi]
              by_cases hk : k = 3
              · rw [if_pos hk]
                exact hh.2 (i + 1) 0 (by omega) (by omega) (by omega) (by omega) (by omega)
              · rw [if_neg hk]
                exact hh.2 (i + 1) (k + 1) (by omega) (by omega) (by omega) (by omega) (by omega)
        refine ⟨by omega, by omega, rot f 3, e7, (hh2.1 3 (by omega) (by omega)).2.st, ?_⟩
        refine keeps (f := rot f) (n := 3) (by omega) (by omega) hw (fr.xs hx) hh2 gI_sIs ?_
        intro μ' g1 g2 g3 g4 g5
        refine hQ μ' (rot f) 4 (by rw [if_pos h4]) (fr.tr g1) g2 g3 g4 (fun i h a b hx' => ?_)
        rw [if_pos h4] at hx'
        refine g5 i h a (by omega) (by omega) ?_
        have er : rot f i = f (i + 1) := by
          unfold rot
          rw [if_neg (by omega)]
        rw [er]
        have h1 : f (i + 1) = 30 ∨ f (i + 1) = 36 ∨ f (i + 1) = 42 ∨ f (i + 1) = 48 := (hh.1 (i + 1) (by omega) (by omega)).2
        refine hx'.fr fr.lay (fun q x y => ?_) ?_ ?_
        · rw [gI_sIn (by omega), gI_sR, e2]
        · rw [gL_sI, gL_sR, e3]
        · rw [gR_sI, gR_sR, if_neg (by omega), e4 _ (by omega)]
      | succ m ih =>
        intro j ξ hj j1 e1 e2 e3 e4 e5 e6
        refine bX7_dropOldest_9 (hh.1 0 (by omega) (by omega)).2.st ⟨zi _, fun q => absurd q (by omega), fun _ => ⟨by omega, by omega, f j, e6 j (by omega) (by omega), (hh.1 j (by omega) (by omega)).2.st, by omega, by omega, ?_⟩⟩
        refine ih (j + 1) _ (by omega) (by omega) e1 e2 e3 (fun q hq => ?_) (fun i a b => ?_) (fun i a b => ?_)
        · funext i
          rw [gR_sR, if_neg (fun z => hq z.1), e4 q hq]
        · by_cases h : i = j - 1
          · rw [gR_sR, if_pos ⟨rfl, h⟩, h, show j - 1 + 1 = j by omega]
          · rw [gR_sR, if_neg (fun z => h z.2)]
            exact e5 i a (by omega)
        · rw [gR_sR, if_neg (by omega)]
          exact e6 i (by omega) b
    exact loop 3 1 μ (by omega) (by omega) rfl rfl rfl (fun _ _ => rfl) (fun i a b => by omega) (fun i a b => (hh.1 i (by omega) b).1)
theorem pX7_undo {d : Nat} {Q : Int → zMem → Prop} {μ : zMem} {s : Int → Int} {f : Int → Nat} {n : Int} (n0 : 0 ≤ n) (n1 : n ≤ 4) (hh : HIS μ f) (hn : gI μ 0 2 = n) (hno : n = 0 → Q (-4) μ)
    (hok : 0 < n → (wf s ∧ XS (f (n - 1)) s μ) ∧ ∀ μ', cpf 1 (sI μ 0 2 (n - 1)) μ' → XS 1 s μ' → gI μ' 2 1 = gI μ 2 1 + 1 → Q (n - 1) μ') : kX7_undo (d + 3) μ Q := by
  refine bX7_undo ?_
  rw [hn, gI_sIs]
  refine ⟨zi _, fun hp => ?_, fun hp => hno (by omega)⟩
  obtain ⟨⟨hw, hx⟩, hq⟩ := hok hp
  have hf := hh.1 (n - 1) (by omega) (by omega)
  have hst : f (n - 1) = 30 ∨ f (n - 1) = 36 ∨ f (n - 1) = 42 ∨ f (n - 1) = 48 := hf.2
  refine ⟨by omega, by omega, f (n - 1), hf.1, hf.2.st, ?_⟩
  refine pX5_copyFrom (s := s) isSt_1 hf.2.st (by omega) hw (hx.fr (lay_of rfl (fun q hq => ⟨gI_sIn (by omega), rfl⟩)) (fun q a b => gI_sIn (by omega)) rfl rfl) ?_
  intro μ' g1 g2 g3
  rw [g1.2.2.1 0 (by omega), gI_sIs]
  refine hq μ' g1 g2 ?_
  rw [g3, gI_sIn (by decide)]
