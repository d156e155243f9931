/-! the model's spans -/
def nsp (μ : zMem) (i a b : Int) : zMem := sI (sI μ 56 i a) 57 i b
theorem nsp_nsp (μ : zMem) (i a b a' b' : Int) : sI (sI (nsp μ i a b) 56 i a') 57 i b' = nsp μ i a' b' := by
  refine mem_ext rfl (fun q j => ?_) rfl rfl
  simp only [nsp, gI_sI]
  by_cases h1 : q = 57 ∧ j = i
  · simp [h1]
  · by_cases h2 : q = 56 ∧ j = i
    · simp [h2]
    · simp [h1, h2]
theorem nsp_56 (μ : zMem) (i a b : Int) : gI (nsp μ i a b) 56 i = a := by simp [nsp, gI_sI]
theorem pX8_notesSpan {d : Nat} {Q : zMem → Prop} {μ : zMem} {i : Int} {m : Int64} {f : Nat → Bool} (i0 : 0 ≤ i) (i1 : i < 1296) (hm : mb m f) (hQ : Q (nsp μ i (spr f 48).2.1 (spr f 48).2.2)) : kX8_notesSpan d i m μ Q := by
  refine bX8_notesSpan ⟨i0, i1, ?_⟩
  have loop : ∀ (j x : Nat), x + j = 48 → zX8_notesSpan_20 d Q i m (spr f x).1 x (nsp μ i (spr f x).2.1 (spr f x).2.2) := by
    intro j
    induction j with
    | zero =>
      intro x hx
      refine bX8_notesSpan_20 ⟨zi _, fun _ => ?_, fun h => absurd (by omega) h⟩
      have : x = 48 := by omega
      rw [this]
      exact hQ
    | succ j ih =>
      intro x hx
      have hb := spr_bd f x
      have e : (if zcmp ((m >>> ((Int32.ofInt (x : Int)).toInt64 &&& 63)) &&& 1) 1 = 0 then (spr f x).1 + 1 else 0) = (if f x = true then (spr f x).1 + 1 else 0) := by
        by_cases c : f x = true
        · rw [if_pos c, if_pos ((mb_at1 hm (by omega)).mpr c)]
        · rw [if_neg c, if_neg (fun q => c ((mb_at1 hm (by omega)).mp q))]
      have ih := ih (x + 1) (by omega)
      unfold spr at ih
      refine bX8_notesSpan_20 ⟨zi _, fun h => absurd h (by omega), fun _ => ⟨i0, i1, ?_⟩⟩
      rw [e, nsp_56]
      have hr : 0 ≤ (if f x = true then (spr f x).1 + 1 else 0) ∧ (if f x = true then (spr f x).1 + 1 else 0) ≤ 48 := by split <;> omega
      generalize (if f x = true then (spr f x).1 + 1 else 0) = rn at ih hr ⊢
      refine ⟨zi _, zi _, fun h => ?_, fun h => ?_⟩
      · rw [if_neg (by omega)] at ih
        exact ih
      · rw [if_pos (by omega)] at ih
        rw [nsp_nsp]
        exact ih
  exact loop 48 0 (by omega)
def mbk (m : Int64) (f : Nat → Bool) (k : Nat) : Prop := ∀ c, c < 64 → bitAt m c = (decide (c < k) && f c)
theorem mbk_0 (f : Nat → Bool) : mbk 0 f 0 := fun c _ => by simp [bit_0]
theorem mbk_s {m : Int64} {f : Nat → Bool} {k : Nat} (h : mbk m f k) (hk : k < 48) : mbk (m ||| (if b2 (f k = true) = 0 then 0 else ((1 : Int64) <<< ((Int32.ofInt (k : Int)).toInt64 &&& 63)))) f (k + 1) := by
  intro c hc
  rw [bit_or, h c hc]
  by_cases hf : f k = true
  · have e : ¬ b2 (f k = true) = 0 := by rw [b2_0]; simp [hf]
    rw [if_neg e, bit_shl (by omega) c hc]
    by_cases h1 : c = k
    · subst h1
      simp [hf]
    · by_cases h2 : c < k
      · simp [h1, h2, show c < k + 1 by omega]
      · simp [h1, h2, show ¬ c < k + 1 by omega]
  · have e : b2 (f k = true) = 0 := by rw [b2_0]; exact hf
    rw [if_pos e, bit_0]
    by_cases h1 : c = k
    · subst h1
      simp [hf]
    · by_cases h2 : c < k
      · simp [h2, show c < k + 1 by omega]
      · simp [h2, show ¬ c < k + 1 by omega]
/-- the model's own scratch may have changed, no more -/
def msc (μ μ' : zMem) : Prop := clsame μ μ' ∧ gI μ' 55 = gI μ 55 ∧ gI μ' 63 = gI μ 63 ∧ gI μ' 54 1 = gI μ 54 1 ∧ gI μ' 54 15 = gI μ 54 15
theorem msc.rf {μ : zMem} : msc μ μ := ⟨clsame.rf, rfl, rfl, rfl, rfl⟩
theorem msc.tr {μ μ' μ'' : zMem} (h : msc μ μ') (h' : msc μ' μ'') : msc μ μ'' := ⟨h.1.tr h'.1, h'.2.1.trans h.2.1, h'.2.2.1.trans h.2.2.1, h'.2.2.2.1.trans h.2.2.2.1, h'.2.2.2.2.trans h.2.2.2.2⟩
theorem msc.row {μ μ' : zMem} {s : Int → Int} (h : msc μ μ') (hr : rowIs μ s) : rowIs μ' s := fun i a b => by rw [h.2.1]; exact hr i a b
def spOK (s : Int → Int) (μ : zMem) : Prop := ∀ row rows : Int, 0 ≤ row → 1 ≤ rows → row + rows ≤ 36 → gI μ 56 (36 * (rows - 1) + row) = SL s row rows ∧ gI μ 57 (36 * (rows - 1) + row) = SF s row rows
theorem pX8_findsSpansL {d : Nat} {Q : zMem → Prop} {μ : zMem} {s : Int → Int} (hr : rowIs μ s) (hw : wf s) (hQ : ∀ μ', msc μ μ' → spOK s μ' → gL μ' 54 = gL μ 54 → Q μ') : kX8_findsSpans (d + 3) μ Q := by
  refine bX8_findsSpans ?_
  -- the second loops
  have second : ∀ (ν : zMem), msc μ ν → gL ν 54 = gL μ 54 → (∀ y : Nat, y < 36 → mb (gL ν 58 y) (fun x => freeB s x y)) → zX8_findsSpans_62 (d + 2) Q 0 ν := by
    intro ν hν hL hM
    have loop : ∀ (m f : Nat) (ξ : zMem), f + m = 36 → msc μ ξ → gL ξ = gL ν → (∀ row rows : Int, 0 ≤ row → row < f → 1 ≤ rows → row + rows ≤ 36 → gI ξ 56 (36 * (rows - 1) + row) = SL s row rows ∧ gI ξ 57 (36 * (rows - 1) + row) = SF s row rows) → zX8_findsSpans_62 (d + 2) Q f ξ := by
      intro m
      induction m with
      | zero =>
        intro f ξ hf h1 h2 h3
        refine bX8_findsSpans_62 ⟨zi _, fun _ => ?_, fun h => absurd (by omega) h⟩
        exact hQ ξ h1 (fun row rows a b c => h3 row rows a (by omega) b c) (by rw [h2]; exact hL)
      | succ m ih =>
        intro f ξ hf h1 h2 h3
        refine bX8_findsSpans_62 ⟨zi _, fun h => absurd h (by omega), fun _ => ⟨by omega, by omega, ?_⟩⟩
        have inner : ∀ (j r : Nat) (η : zMem) (w : Int64) (g : Nat → Bool), f + r + j = 36 → msc μ η → gL η = gL ν → mb w g → (∀ c, c < 48 → f + r < 36 → (g c && freeB s c ((f + r : Nat) : Int)) = bandB s f (r + 1) c) →
            (∀ row rows : Int, 0 ≤ row → (row < f ∨ (row = f ∧ rows ≤ r)) → 1 ≤ rows → row + rows ≤ 36 → gI η 56 (36 * (rows - 1) + row) = SL s row rows ∧ gI η 57 (36 * (rows - 1) + row) = SF s row rows) → zX8_findsSpans_78 (d + 2) Q f w ((f + r : Nat) : Int) η := by
          intro j
          induction j with
          | zero =>
            intro r η w g hj k1 k2 k3 k4 k5
            refine bX8_findsSpans_78 ⟨zi _, fun _ => ?_, fun h => absurd (by omega) h⟩
            exact ih (f + 1) η (by omega) k1 k2 (fun row rows a b c e => k5 row rows a (by omega) c e)
          | succ j ihj =>
            intro r η w g hj k1 k2 k3 k4 k5
            have hlt : f + r < 36 := by omega
            refine bX8_findsSpans_78 ⟨zi _, fun h => absurd h (by omega), fun _ => ⟨by omega, by omega, ?_⟩⟩
            have hb : mb (w &&& gL η 58 ((f + r : Nat) : Int)) (bandB s f (r + 1)) := by
              rw [k2]
              exact mb_congr (mb_and k3 (hM (f + r) hlt)) (fun c hc => k4 c hc hlt)
            refine pX8_notesSpan (by omega) (by omega) hb ?_
            have e0 : 36 * (((f + r : Nat) : Int) - (f : Int)) + (f : Int) = 36 * (((r + 1 : Nat) : Int) - 1) + f := by omega
            rw [e0]
            refine ihj (r + 1) _ _ (bandB s f (r + 1)) (by omega) ?_ k2 hb (fun c hc _ => rfl) ?_
            · obtain ⟨a1, a2, a3, a4, a5⟩ := k1
              exact ⟨(a1.sI (by omega)).sI (by omega), by rw [nsp, gI_sIn (by decide), gI_sIn (by decide)]; exact a2, by rw [nsp, gI_sIn (by decide), gI_sIn (by decide)]; exact a3, by rw [nsp, gI_sIn (by decide), gI_sIn (by decide)]; exact a4, by rw [nsp, gI_sIn (by decide), gI_sIn (by decide)]; exact a5⟩
            · intro row rows a b c e
              simp only [nsp, gI_sI]
              by_cases he : row = f ∧ rows = ((r + 1 : Nat) : Int)
              · obtain ⟨rfl, rfl⟩ := he
                simp [SL, SF]
              · have hne : ¬ (36 * (rows - 1) + row = 36 * (((r + 1 : Nat) : Int) - 1) + (f : Int)) := by omega
                simp only [hne, and_false, if_false]
                exact k5 row rows a (by omega) c e
        have h0 := inner (m + 1) 0 ξ (gL ξ 58 f) (fun x => freeB s x f) (by omega) h1 h2 (by rw [h2]; exact hM f (by omega)) (fun c hc _ => by simp [bandB]) (fun row rows a b c e => h3 row rows a (by omega) c e)
        rw [Nat.add_zero] at h0
        exact h0
    exact loop 36 0 ν (by omega) hν rfl (fun row rows a b c e => by omega)
  have first : ∀ (m y : Nat) (ν : zMem), y + m = 36 → clsame μ ν → gL ν 54 = gL μ 54 → gI ν = gI μ → (∀ j : Nat, j < y → mb (gL ν 58 j) (fun x => freeB s x j)) → zX8_findsSpans_2 (d + 2) Q y ν := by
    intro m
    induction m with
    | zero =>
      intro y ν hy h1 hL h2 h3
      refine bX8_findsSpans_2 ⟨zi _, fun _ => ?_, fun h => absurd (by omega) h⟩
      exact second ν ⟨h1, by rw [h2], by rw [h2], by rw [h2], by rw [h2]⟩ hL (fun j hj => h3 j (by omega))
    | succ m ih =>
      intro y ν hy h1 hL h2 h3
      refine bX8_findsSpans_2 ⟨zi _, fun h => absurd h (by omega), fun _ => ⟨by omega, by omega, ?_⟩⟩
      have inner : ∀ (j x : Nat) (ξ : zMem), x + j = 48 → clsame μ ξ → gL ξ 54 = gL μ 54 → gI ξ = gI μ → (∀ j : Nat, j < y → mb (gL ξ 58 j) (fun x => freeB s x j)) → mbk (gL ξ 58 y) (fun x => freeB s x y) x → zX8_findsSpans_17 (d + 2) Q y x ξ := by
        intro j
        induction j with
        | zero =>
          intro x ξ hx k1 kL k2 k3 k4
          refine bX8_findsSpans_17 ⟨zi _, fun _ => ?_, fun h => absurd (by omega) h⟩
          refine ih (y + 1) ξ (by omega) k1 kL k2 (fun j hj => ?_)
          by_cases e : j = y
          · subst e
            have : x = 48 := by omega
            rw [this] at k4
            exact k4
          · exact k3 j (by omega)
        | succ j ihj =>
          intro x ξ hx k1 kL k2 k3 k4
          refine bX8_findsSpans_17 ⟨zi _, fun h => absurd h (by omega), fun _ => ⟨by omega, by omega, ?_⟩⟩
          have hrx : rowIs ξ s := fun i a b => by rw [k2]; exact hr i a b
          refine pX8_free hrx hw (zi _) (zi _) ⟨b2_in _, ?_⟩
          refine ihj (x + 1) _ (by omega) (k1.sL (by omega)) (by rw [gL_sLn (by decide)]; exact kL) k2 (fun j hj => ?_) ?_
          · rw [gL_sL, if_neg (by omega)]
            exact k3 j hj
          · rw [gL_sL, if_pos ⟨rfl, rfl⟩]
            exact mbk_s (f := fun c : Nat => freeB s (c : Int) (y : Int)) k4 (by omega)
      refine inner 48 0 _ (by omega) (h1.sL (by omega)) (by rw [gL_sLn (by decide)]; exact hL) h2 (fun j hj => ?_) ?_
      · rw [gL_sL, if_neg (by omega)]
        exact h3 j hj
      · rw [gL_sL, if_pos ⟨rfl, rfl⟩]
        exact mbk_0 _
  exact first 36 0 μ (by omega) clsame.rf rfl rfl (fun j hj => by omega)
theorem pX8_findsSpans {d : Nat} {Q : zMem → Prop} {μ : zMem} {s : Int → Int} (hr : rowIs μ s) (hw : wf s) (hQ : ∀ μ', msc μ μ' → spOK s μ' → Q μ') : kX8_findsSpans (d + 3) μ Q := pX8_findsSpansL hr hw (fun μ' a b _ => hQ μ' a b)
theorem SL_bd (s : Int → Int) (row rows : Int) : 0 ≤ SL s row rows ∧ SL s row rows ≤ 48 ∧ -1 ≤ SF s row rows ∧ SF s row rows ≤ 48 ∧ (0 < SL s row rows → 0 ≤ SF s row rows ∧ SF s row rows + SL s row rows ≤ 48) := by
  have := spr_bd (bandB s row rows.toNat) 48
  unfold SL SF
  omega
theorem bandB_mono (s : Int → Int) (row : Int) : ∀ (a b x : Nat), a ≤ b → bandB s row b x = true → bandB s row a x = true
  | a, 0, x, h, hb => by
    have : a = 0 := by omega
    subst this
    exact hb
  | a, b + 1, x, h, hb => by
    by_cases e : a = b + 1
    · subst e
      exact hb
    · unfold bandB at hb
      rw [Bool.and_eq_true] at hb
      exact bandB_mono s row a b x (by omega) hb.1
/-- a higher band's span is not longer -/
theorem SL_mono (s : Int → Int) (row : Int) {a b : Int} (ha : 0 ≤ a) (h : a ≤ b) : SL s row b ≤ SL s row a := by
  unfold SL
  exact (spr_mono (fun x _ hx => bandB_mono s row a.toNat b.toNat x (by omega) hx) 48 (Nat.le_refl _)).2
theorem pX8_span {d : Nat} {Q : Int → zMem → Prop} {μ : zMem} {s : Int → Int} {x1 x2 x3 : Int} (hr : rowIs μ s) (hw : wf s) (h1 : zIn x1) (h2 : zIn x2) (h3 : zIn x3)
    (hQ : ∀ μ', msc μ μ' → Q (if (0 ≤ x1 ∧ x1 ≤ 35) ∧ (1 ≤ x2 ∧ x2 ≤ 36 - x1) ∧ (0 ≤ x3 ∧ x3 ≤ 1) then (if x3 = 0 then SL s x1 x2 else SF s x1 x2) else -3) μ') : kX8_span (d + 4) x1 x2 x3 μ Q := by
  refine bX8_span ?_
  refine pX8_in h1 (zi _) (zi _) ⟨b2_in _, fun h => ?_, fun h => ?_⟩
  · rw [b2_0] at h
    have := hQ μ msc.rf
    rw [if_neg (fun q => h q.1)] at this
    exact this
  rw [b2_0, Classical.not_not] at h
  refine pX8_in h2 (zi _) (zi _) ⟨b2_in _, fun h' => ?_, fun h' => ?_⟩
  · rw [b2_0] at h'
    have := hQ μ msc.rf
    rw [if_neg (fun q => h' q.2.1)] at this
    exact this
  rw [b2_0, Classical.not_not] at h'
  refine pX8_in h3 (zi _) (zi _) ⟨b2_in _, fun h'' => ?_, fun h'' => ?_⟩
  · rw [b2_0] at h''
    have := hQ μ msc.rf
    rw [if_neg (fun q => h'' q.2.2)] at this
    exact this
  rw [b2_0, Classical.not_not] at h''
  refine pX8_findsSpans hr hw (fun μ' hm hs => ⟨⟨h3, fun _ => ⟨by omega, by omega⟩, fun _ => ⟨by omega, by omega⟩⟩, ?_⟩)
  have := hQ μ' hm
  rw [if_pos ⟨h, h', h''⟩] at this
  obtain ⟨e1, e2⟩ := hs x1 x2 (by omega) (by omega) (by omega)
  rw [e1, e2]
  exact this
