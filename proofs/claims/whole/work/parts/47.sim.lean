/-! the class and the model side by side -/
def TXC (μ : zMem) : Prop := gI μ 0 4 = gI μ 54 15 ∧ 0 ≤ gI μ 54 15 ∧ gI μ 54 15 ≤ 80 ∧ ∀ x, 0 ≤ x → x < gI μ 54 15 → gI μ 8 x = gI μ 63 x ∧ 0 ≤ gI μ 63 x ∧ gI μ 63 x ≤ 255
/-- the present state s, the kept ones h 1 .. h n, in the States f 0 .. f (n - 1) -/
def SM (B : Int) (s : Int → Int) (h : Int → Int → Int) (n : Int) (f : Int → Nat) (μ : zMem) : Prop := (rowIs μ s ∧ wf s ∧ wfP s) ∧ (0 ≤ n ∧ n ≤ 4 ∧ gI μ 54 1 = n ∧ gI μ 0 2 = n) ∧ (∀ j, 1 ≤ j → j ≤ n → (∀ i, 0 ≤ i → i < 257 → gI μ 55 (257 * j + i) = h j i) ∧ wf (h j) ∧ wfP (h j) ∧ XS (f (j - 1)) (h j) μ) ∧ HIS μ f ∧ XS 1 s μ ∧ BND s μ ∧ (1 ≤ gI μ 2 1 ∧ gI μ 2 1 ≤ B) ∧ TXC μ
def SIM (B : Int) (μ : zMem) : Prop := ∃ s h n f, SM B s h n f μ
theorem SM.pre {B : Int} {s : Int → Int} {h : Int → Int → Int} {n : Int} {f : Int → Nat} {μ : zMem} (H : SM B s h n f μ) : mpre μ s := ⟨H.1.1, H.1.2.1, by rw [H.2.1.2.2.1]; exact H.2.1.1, by rw [H.2.1.2.2.1]; exact H.2.1.2.1⟩
theorem SM.up {B B' : Int} {s : Int → Int} {h : Int → Int → Int} {n : Int} {f : Int → Nat} {μ : zMem} (H : SM B s h n f μ) (hb : B ≤ B') : SM B' s h n f μ := ⟨H.1, H.2.1, H.2.2.1, H.2.2.2.1, H.2.2.2.2.1, H.2.2.2.2.2.1, ⟨H.2.2.2.2.2.2.1.1, Int.le_trans H.2.2.2.2.2.2.1.2 hb⟩, H.2.2.2.2.2.2.2⟩
/-- the class's own scratch may have changed, no more -/
def csc (μ μ' : zMem) : Prop := lay μ μ' ∧ (∀ q, q < 65 → gR μ' q = gR μ q) ∧ gL μ' = gL μ ∧ ∀ q, (q < 9 ∨ (29 < q ∧ q < 65)) → gI μ' q = gI μ q
theorem hst_r {f : Int → Nat} {μ : zMem} (h : HIS μ f) {j : Int} (a : 0 ≤ j) (b : j < 4) : f j = 30 ∨ f j = 36 ∨ f j = 42 ∨ f j = 48 := (h.1 j a b).2
theorem SM.csc {B : Int} {s : Int → Int} {h : Int → Int → Int} {n : Int} {f : Int → Nat} {μ μ' : zMem} (H : SM B s h n f μ) (c : csc μ μ') (hb : BND s μ') : SM B s h n f μ' := by
  obtain ⟨h1, h2, h3, h4, h5, h6, h7, h8⟩ := H
  obtain ⟨c1, c2, c3, c4⟩ := c
  have e54 := c4 54 (by omega)
  have e55 := c4 55 (by omega)
  have e63 := c4 63 (by omega)
  have e0 := c4 0 (by omega)
  have e2 := c4 2 (by omega)
  have e8 := c4 8 (by omega)
  refine ⟨⟨fun i a b => by rw [e55]; exact h1.1 i a b, h1.2⟩, ⟨h2.1, h2.2.1, by rw [e54]; exact h2.2.2.1, by rw [e0]; exact h2.2.2.2⟩, fun j a b => ?_, ⟨fun j a b => ⟨by rw [c2 7 (by omega)]; exact (h4.1 j a b).1, (h4.1 j a b).2⟩, h4.2⟩, h5.fr c1 (fun q a b => c4 q (by omega)) (by rw [c3]) (by rw [c2 1 (by omega)]), hb, by rw [e2]; exact h7, ?_⟩
  · have g := h3 j a b
    have hs := hst_r h4 (show 0 ≤ j - 1 by omega) (by omega)
    exact ⟨by rw [e55]; exact g.1, g.2.1, g.2.2.1, g.2.2.2.fr c1 (fun q x y => c4 q (by omega)) (by rw [c3]) (by rw [c2 _ (by omega)])⟩
  · unfold TXC
    rw [e0, e54, e8, e63]
    exact h8
theorem SM.msc {B : Int} {s : Int → Int} {h : Int → Int → Int} {n : Int} {f : Int → Nat} {μ μ' : zMem} (H : SM B s h n f μ) (c : msc μ μ') : SM B s h n f μ' := by
  obtain ⟨h1, h2, h3, h4, h5, h6, h7, h8⟩ := H
  obtain ⟨⟨c1, c2, c3⟩, e55, e63, e1, e15⟩ := c
  have cl : lay μ μ' := lay_of c1 (fun q hq => ⟨(c3 q (by omega)).1, by rw [c2]⟩)
  have e0 := (c3 0 (by omega)).1
  have e2 := (c3 2 (by omega)).1
  have e8 := (c3 8 (by omega)).1
  refine ⟨⟨fun i a b => by rw [e55]; exact h1.1 i a b, h1.2⟩, ⟨h2.1, h2.2.1, by rw [e1]; exact h2.2.2.1, by rw [e0]; exact h2.2.2.2⟩, fun j a b => ?_, ⟨fun j a b => ⟨by rw [c2]; exact (h4.1 j a b).1, (h4.1 j a b).2⟩, h4.2⟩, h5.fr cl (fun q a b => (c3 q (by omega)).1) (c3 4 (by omega)).2 (by rw [c2]), fun r a b => ?_, by rw [e2]; exact h7, ?_⟩
  · have g := h3 j a b
    have hs := hst_r h4 (show 0 ≤ j - 1 by omega) (by omega)
    exact ⟨by rw [e55]; exact g.1, g.2.1, g.2.2.1, g.2.2.2.fr cl (fun q x y => (c3 q (by omega)).1) (c3 _ (by omega)).2 (by rw [c2])⟩
  · have g := h6 r a b
    rw [(c3 15 (by omega)).1, e2]
    refine ⟨g.1, g.2.1, fun q row x y => ?_⟩
    rw [(c3 13 (by omega)).1, (c3 14 (by omega)).1]
    exact g.2.2 q row x y
  · unfold TXC
    rw [e0, e15, e8, e63]
    exact h8
/-- what the class has done, when it kept the state s and went on to the state s' -/
def cop (f : Int → Nat) (n : Int) (s s' : Int → Int) (μ μ1 : zMem) : Prop := ∃ f' n', n' = (if n = 4 then 4 else n + 1) ∧ HIS μ1 f' ∧ gI μ1 0 2 = n' ∧ XS (f' (n' - 1)) s μ1 ∧ (∀ j h, 0 ≤ j → j < n' - 1 → XS (f (if n = 4 then j + 1 else j)) h μ → XS (f' j) h μ1) ∧ XS 1 s' μ1 ∧ BND s' μ1 ∧ (gI μ 2 1 ≤ gI μ1 2 1 ∧ gI μ1 2 1 ≤ gI μ 2 1 + 2) ∧ gI μ1 0 4 = gI μ 0 4 ∧ gI μ1 8 = gI μ 8 ∧ (∀ q, 54 ≤ q → q ≤ 64 → gI μ1 q = gI μ q)
theorem SM.op {B : Int} {s s' : Int → Int} {h : Int → Int → Int} {n : Int} {f : Int → Nat} {μ μ1 μ2 : zMem} (H : SM B s h n f μ) (c : cop f n s s' μ μ1) (m : mop μ1 μ2 s') (hw : wf s') (hp : wfP s') : SIM (B + 2) μ2 := by
  obtain ⟨h1, h2, h3, h4, h5, h6, h7, h8⟩ := H
  obtain ⟨f', n', c1, c2, c3, c4, c5, c6, c7, c8, c9, c10, c11⟩ := c
  obtain ⟨m1, m2, m3, m4, m5, m6, m7⟩ := m
  have e54 := c11 54 (by omega) (by omega)
  have e55 := c11 55 (by omega) (by omega)
  have e63 := c11 63 (by omega) (by omega)
  rw [e54, h2.2.2.1] at m2
  rw [e54, h2.2.2.1, e55] at m6 m7
  rw [← c1] at m2 m6 m7
  have cl : lay μ1 μ2 := lay_of m1.1 (fun q hq => ⟨(m1.2.2 q (by omega)).1, by rw [m1.2.1]⟩)
  have e0 := (m1.2.2 0 (by omega)).1
  have e2 := (m1.2.2 2 (by omega)).1
  have e8 := (m1.2.2 8 (by omega)).1
  have n'b : 1 ≤ n' ∧ n' ≤ 4 := by
    rw [c1]
    split <;> omega
  have up : ∀ {j : Int} {g : Int → Int}, 0 ≤ j → j < 4 → XS (f' j) g μ1 → XS (f' j) g μ2 := fun {j g} a b hx => by
    have hs := hst_r c2 a b
    exact hx.fr cl (fun q x y => (m1.2.2 q (by omega)).1) (m1.2.2 _ (by omega)).2 (by rw [m1.2.1])
  refine ⟨s', fun j => if j = n' then s else h (if n = 4 then j + 1 else j), n', f', ⟨m5, hw, hp⟩, ⟨by omega, by omega, m2, by rw [e0]; exact c3⟩, fun j a b => ?_, ⟨fun j a b => ⟨by rw [m1.2.1]; exact (c2.1 j a b).1, (c2.1 j a b).2⟩, c2.2⟩, c6.fr cl (fun q a b => (m1.2.2 q (by omega)).1) (m1.2.2 4 (by omega)).2 (by rw [m1.2.1]), fun r a b => ?_, by rw [e2]; omega, ?_⟩
  · by_cases e : j = n'
    · dsimp only
      rw [if_pos e, e]
      exact ⟨fun i x y => (m6 i x y).trans (h1.1 i x y), h1.2.1, h1.2.2, up (by omega) (by omega) c4⟩
    · dsimp only
      rw [if_neg e]
      have jb : 1 ≤ (if n = 4 then j + 1 else j) ∧ (if n = 4 then j + 1 else j) ≤ n := by
        rw [c1] at b e
        split at b <;> rename_i h4' <;> simp only [h4', if_true, if_false] at e ⊢ <;> omega
      have g := h3 _ jb.1 jb.2
      refine ⟨fun i x y => (m7 j i a (by omega) x y).trans (g.1 i x y), g.2.1, g.2.2.1, up (by omega) (by omega) (c5 (j - 1) _ (by omega) (by omega) ?_)⟩
      have ej : (if n = 4 then j - 1 + 1 else j - 1) = (if n = 4 then j + 1 else j) - 1 := by
        split <;> omega
      rw [ej]
      exact g.2.2.2
  · have g := c7 r a b
    rw [(m1.2.2 15 (by omega)).1, e2]
    refine ⟨g.1, g.2.1, fun q row x y => ?_⟩
    rw [(m1.2.2 13 (by omega)).1, (m1.2.2 14 (by omega)).1]
    exact g.2.2 q row x y
  · unfold TXC
    rw [e0, m3, e8, m4, c9, c10, e54, e63]
    exact h8
theorem SM.rem {d : Nat} {Q : zMem → Prop} {B : Int} {s : Int → Int} {h : Int → Int → Int} {n : Int} {f : Int → Nat} {μ : zMem} (H : SM B s h n f μ) (hQ : ∀ μ', cop f n s s μ μ' → rmf μ μ' → Q μ') : kX7_remember (d + 3) μ Q := by
  obtain ⟨h1, h2, h3, h4, h5, h6, h7, h8⟩ := H
  refine pX7_remember h2.1 h2.2.1 h1.2.1 h5 h4 h2.2.2.2 ?_
  intro μ' f' n' e1 e2 e3 e4 e5 e6
  have r2 := e2.2.1 2 (by omega) (by omega)
  refine hQ μ' ⟨f', n', e1, e3, e4, e5, e6, e2.xs h5, fun r a b => ?_, by rw [r2]; omega, e2.2.2.1 4 (by decide), e2.2.1 8 (by omega) (by omega), fun q a b => e2.2.1 q (by omega) (by omega)⟩ e2
  have g := h6 r a b
  rw [e2.2.1 15 (by omega) (by omega), r2]
  refine ⟨g.1, g.2.1, fun q row x y => ?_⟩
  rw [e2.2.1 13 (by omega) (by omega), e2.2.1 14 (by omega) (by omega)]
  exact g.2.2 q row x y
/-- the present State goes on from s to s' -/
theorem cop.mod {f : Int → Nat} {n : Int} {s s' : Int → Int} {μ μr μ1 : zMem} (n0 : 0 ≤ n) (n1 : n ≤ 4) (c : cop f n s s μ μr) (fd : gD μ1 = gD μr) (fr : ∀ q, q ≠ 1 → gR μ1 q = gR μr q) (fi : ∀ q, ¬ (1 ≤ q ∧ q ≤ 6) → gI μ1 q = gI μr q) (fl : ∀ q, q ≠ 4 → gL μ1 q = gL μr q) (hx : XS 1 s' μ1) (hb : BND s' μ1) (hc : gI μr 2 1 ≤ gI μ1 2 1 ∧ gI μ1 2 1 ≤ gI μ 2 1 + 2) : cop f n s s' μ μ1 := by
  obtain ⟨f', n', c1, c2, c3, c4, c5, c6, c7, c8, c9, c10, c11⟩ := c
  have cl : lay μr μ1 := lay_of fd (fun q hq => ⟨fi q (by omega), fr q (by omega)⟩)
  have hn : 1 ≤ n' ∧ n' ≤ 4 := by
    rw [c1]
    split <;> omega
  have up : ∀ {j : Int} {g : Int → Int}, 0 ≤ j → j < 4 → XS (f' j) g μr → XS (f' j) g μ1 := fun {j g} a b hx => by
    have hs := hst_r c2 a b
    exact hx.fr cl (fun q x y => fi q (by omega)) (fl _ (by omega)) (by rw [fr _ (by omega)])
  exact ⟨f', n', c1, ⟨fun j a b => ⟨by rw [fr 7 (by omega)]; exact (c2.1 j a b).1, (c2.1 j a b).2⟩, c2.2⟩, by rw [fi 0 (by omega)]; exact c3, up (by omega) (by omega) c4, fun j h a b hx => up a (by omega) (c5 j h a b hx), hx, hb, by omega, by rw [fi 0 (by omega)]; exact c9, by rw [fi 8 (by omega)]; exact c10, fun q a b => by rw [fi q (by omega)]; exact c11 q a b⟩
