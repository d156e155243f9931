/-! locals -/
def zdl : Option Value → Option Value
  | some (.long _) => none
  | some (.double _) => none
  | o => o
def zst : List (Option Value) → Nat → Value → List (Option Value)
  | [], _, _ => []
  | _ :: l, 0, v => some v :: l
  | o :: l, 1, v => zdl o :: zst l 0 v
  | o :: l, i + 2, v => o :: zst l (i + 1) v
def zst2 : List (Option Value) → Nat → Value → List (Option Value)
  | [], _, _ => []
  | [_], 0, v => [some v]
  | _ :: _ :: l, 0, v => some v :: none :: l
  | o :: l, 1, v => zdl o :: zst2 l 0 v
  | o :: l, i + 2, v => o :: zst2 l (i + 1) v
theorem zdl_at {o : Option Value} {w : Value} (h : zdl o = some w) : o = some w ∧ ¬ w.category = 2 := by
  unfold zdl at h
  split at h
  · cases h
  · cases h
  · rename_i h1 h2
    refine ⟨h, ?_⟩
    subst h
    cases w <;> simp_all [Value.category]
theorem zst_at : ∀ (lo : List (Option Value)) (i j : Nat) (v w : Value), (zst lo i v)[j]? = some (some w) → (j = i ∧ w = v) ∨ (j ≠ i ∧ lo[j]? = some (some w) ∧ (j + 1 = i → ¬ w.category = 2))
  | [], i, j, v, w, h => by simp [zst] at h
  | o :: l, 0, 0, v, w, h => by
    simp [zst] at h
    exact Or.inl ⟨rfl, h.symm⟩
  | o :: l, 0, j + 1, v, w, h => Or.inr ⟨by omega, by simpa [zst] using h, by omega⟩
  | o :: l, 1, 0, v, w, h => by
    simp only [zst, List.getElem?_cons_zero] at h
    have := zdl_at (Option.some.inj h)
    exact Or.inr ⟨by omega, by simp [this.1], fun _ => this.2⟩
  | o :: l, 1, j + 1, v, w, h => by
    simp only [zst, List.getElem?_cons_succ] at h
    rcases zst_at l 0 j v w h with ⟨h1, h2⟩ | ⟨h1, h2, h3⟩
    · exact Or.inl ⟨by omega, h2⟩
    · exact Or.inr ⟨by omega, by simpa using h2, by omega⟩
  | o :: l, i + 2, 0, v, w, h => Or.inr ⟨by omega, by simpa [zst] using h, by omega⟩
  | o :: l, i + 2, j + 1, v, w, h => by
    simp only [zst, List.getElem?_cons_succ] at h
    rcases zst_at l (i + 1) j v w h with ⟨h1, h2⟩ | ⟨h1, h2, h3⟩
    · exact Or.inl ⟨by omega, h2⟩
    · exact Or.inr ⟨by omega, by simpa using h2, fun e => h3 (by omega)⟩
theorem zst2_at : ∀ (lo : List (Option Value)) (i j : Nat) (v w : Value), (zst2 lo i v)[j]? = some (some w) → (j = i ∧ w = v) ∨ (j ≠ i ∧ j ≠ i + 1 ∧ lo[j]? = some (some w) ∧ (j + 1 = i → ¬ w.category = 2))
  | [], i, j, v, w, h => by simp [zst2] at h
  | [o], 0, 0, v, w, h => by
    simp [zst2] at h
    exact Or.inl ⟨rfl, h.symm⟩
  | [o], 0, j + 1, v, w, h => by simp [zst2] at h
  | o :: o2 :: l, 0, 0, v, w, h => by
    simp [zst2] at h
    exact Or.inl ⟨rfl, h.symm⟩
  | o :: o2 :: l, 0, 1, v, w, h => by simp [zst2] at h
  | o :: o2 :: l, 0, j + 2, v, w, h => Or.inr ⟨by omega, by omega, by simpa [zst2] using h, by omega⟩
  | o :: l, 1, 0, v, w, h => by
    simp only [zst2, List.getElem?_cons_zero] at h
    have := zdl_at (Option.some.inj h)
    exact Or.inr ⟨by omega, by omega, by simp [this.1], fun _ => this.2⟩
  | o :: l, 1, j + 1, v, w, h => by
    simp only [zst2, List.getElem?_cons_succ] at h
    rcases zst2_at l 0 j v w h with ⟨h1, h2⟩ | ⟨h1, h2, h3, h4⟩
    · exact Or.inl ⟨by omega, h2⟩
    · exact Or.inr ⟨by omega, by omega, by simpa using h3, by omega⟩
  | o :: l, i + 2, 0, v, w, h => Or.inr ⟨by omega, by omega, by simpa [zst2] using h, by omega⟩
  | o :: l, i + 2, j + 1, v, w, h => by
    simp only [zst2, List.getElem?_cons_succ] at h
    rcases zst2_at l (i + 1) j v w h with ⟨h1, h2⟩ | ⟨h1, h2, h3, h4⟩
    · exact Or.inl ⟨by omega, h2⟩
    · exact Or.inr ⟨by omega, by omega, by simpa using h3, fun e => h4 (by omega)⟩
def zll (b bs : Nat) (lo : List (Option Value)) : List (Nat × Value) := (List.range lo.length).filterMap (fun i => match lo[i]? with
  | some (some v) => some (i, zt b bs v)
  | _ => none)
theorem zll_mem {b bs : Nat} {lo : List (Option Value)} {i : Nat} {v : Value} (h : lo[i]? = some (some v)) : (i, zt b bs v) ∈ zll b bs lo := by
  refine List.mem_filterMap.mpr ⟨i, List.mem_range.mpr (List.getElem?_eq_some_iff.mp h).1, ?_⟩
  simp [h]
theorem zll_has {b bs : Nat} {ls : Array Slot} {nL : Nat} {lo : List (Option Value)} (h : zL b bs ls nL lo) : lv_has ls nL (zll b bs lo) := by
  refine ⟨h.1, h.2.1, fun q hq => ?_⟩
  obtain ⟨i, -, hi⟩ := List.mem_filterMap.mp hq
  split at hi
  · rename_i v hv
    cases hi
    exact h.2.2 i v hv
  · cases hi
theorem zL_st {b bs : Nat} {ls : Array Slot} {nL i : Nat} {lo : List (Option Value)} {v : Value} (h : lv_has ls nL ((i, zt b bs v) :: (zll b bs lo).filter (fun q => !(q.1 == i) && !(q.1 + 1 == i && q.2.category == 2)))) : zL b bs ls nL (zst lo i v) := by
  refine ⟨h.1, h.2.1, fun j w hj => ?_⟩
  rcases zst_at lo i j v w hj with ⟨rfl, rfl⟩ | ⟨h1, h2, h3⟩
  · exact h.2.2 _ List.mem_cons_self
  · refine h.2.2 (j, zt b bs w) (List.mem_cons_of_mem _ (List.mem_filter.mpr ⟨zll_mem h2, ?_⟩))
    simp only [zt_cat, Bool.and_eq_true, Bool.not_eq_true', beq_eq_false_iff_ne, ne_eq, Bool.and_eq_false_iff]
    refine ⟨h1, ?_⟩
    by_cases e : j + 1 = i
    · exact Or.inr (h3 e)
    · exact Or.inl e
theorem zL_st2 {b bs : Nat} {ls : Array Slot} {nL i : Nat} {lo : List (Option Value)} {v : Value} (h : lv_has ls nL ((i, zt b bs v) :: (zll b bs lo).filter (fun q => !(q.1 == i) && (!(q.1 == i + 1) && !(q.1 + 1 == i && q.2.category == 2))))) : zL b bs ls nL (zst2 lo i v) := by
  refine ⟨h.1, h.2.1, fun j w hj => ?_⟩
  rcases zst2_at lo i j v w hj with ⟨rfl, rfl⟩ | ⟨h1, h5, h2, h3⟩
  · exact h.2.2 _ List.mem_cons_self
  · refine h.2.2 (j, zt b bs w) (List.mem_cons_of_mem _ (List.mem_filter.mpr ⟨zll_mem h2, ?_⟩))
    simp only [zt_cat, Bool.and_eq_true, Bool.not_eq_true', beq_eq_false_iff_ne, ne_eq, Bool.and_eq_false_iff]
    refine ⟨h1, h5, ?_⟩
    by_cases e : j + 1 = i
    · exact Or.inr (h3 e)
    · exact Or.inl e
/-- fewer locals -/
def zwk : List Bool → List (Option Value) → List (Option Value)
  | true :: m, o :: l => o :: zwk m l
  | false :: m, _ :: l => none :: zwk m l
  | _, _ => []
theorem zwk_at : ∀ (m : List Bool) (lo : List (Option Value)) (j : Nat) (w : Value), (zwk m lo)[j]? = some (some w) → lo[j]? = some (some w)
  | [], lo, j, w, h => by simp [zwk] at h
  | true :: m, [], j, w, h => by simp [zwk] at h
  | false :: m, [], j, w, h => by simp [zwk] at h
  | true :: m, o :: l, 0, w, h => by simpa [zwk] using h
  | false :: m, o :: l, 0, w, h => by simp [zwk] at h
  | true :: m, o :: l, j + 1, w, h => by
    simp only [zwk, List.getElem?_cons_succ] at h ⊢
    exact zwk_at m l j w h
  | false :: m, o :: l, j + 1, w, h => by
    simp only [zwk, List.getElem?_cons_succ] at h ⊢
    exact zwk_at m l j w h

section ZRules
variable {S : zS} {X : zX} {M : zMt} {d mc ms : Nat} {Q : Option Value → zMem → Prop} {pc pc' tgt : Nat} {lo lo' : List (Option Value)} {st : List Value} {μ : zMem} {k n : Nat}

theorem Z_wk (wm : List Bool) (h : zwk wm lo = lo') (K : Z S X M d mc ms Q pc lo' st μ k n) : Z S X M d mc ms Q pc lo st μ k n := by
  subst h
  intro p l e R s m args below meth c b bs G QF H locs ls C h1 h2 h3 h4
  exact K _ _ _ _ _ _ _ _ _ _ _ _ _ _ _ _ _ C h1 h2 h3 ⟨h4.1, h4.2.1, fun i v h => h4.2.2 i v (zwk_at wm lo i v h)⟩
theorem Z_mono {Q' : Option Value → zMem → Prop} (hq : ∀ v μ, Q v μ → Q' v μ) (K : Z S X M d mc ms Q pc lo st μ k n) : Z S X M d mc ms Q' pc lo st μ k n := by
  intro p l e R s m args below meth c b bs G QF H locs ls C h1 h2 h3 h4
  obtain ⟨c1, c2, c3, c4, c5, c6, c7, c8, c9, c10, c11⟩ := C
  exact K _ _ _ _ _ _ _ _ _ _ _ _ _ _ _ _ _ ⟨c1, c2, c3, c4, c5, c6, c7, c8, c9, c10, fun v μ H locs ls pc op a1 a2 a3 a4 a5 a6 => c11 v μ H locs ls pc op a1 a2 a3 a4 a5 (hq v μ a6)⟩ h1 h2 h3 h4
theorem Z_sh (K : zSh S μ → Z S X M d mc ms Q pc lo st μ k n) : Z S X M d mc ms Q pc lo st μ k n := by
  intro p l e R s m args below meth c b bs G QF H locs ls C h1 h2 h3 h4
  exact K h1 _ _ _ _ _ _ _ _ _ _ _ _ _ _ _ _ _ C h1 h2 h3 h4
theorem Z_iconst {z : Int} (hd : decode M.2.1 pc = .ok (.iconst z, 1)) (hp : pc + 1 = pc') (K : Z S X M d mc ms Q pc' lo (vi z :: st) μ k n) : Z S X M d mc ms Q pc lo (st) μ k n := by
  subst hp
  intro p l e R s m args below meth c b bs G QF H locs ls C h1 h2 h3 h4
  exact lv_iconst C.1 C.2.1 hd rfl (K _ _ _ _ _ _ _ _ _ _ _ _ _ _ _ _ _ C h1 h2 h3 h4)
theorem Z_bipush {z : Int} (hd : decode M.2.1 pc = .ok (.bipush z, 2)) (hp : pc + 2 = pc') (hz : (Int8.ofInt z).toInt32 = Int32.ofInt z) (K : Z S X M d mc ms Q pc' lo (vi z :: st) μ k n) : Z S X M d mc ms Q pc lo (st) μ k n := by
  subst hp
  intro p l e R s m args below meth c b bs G QF H locs ls C h1 h2 h3 h4
  exact lv_bipush C.1 C.2.1 hd hz (K _ _ _ _ _ _ _ _ _ _ _ _ _ _ _ _ _ C h1 h2 h3 h4)
theorem Z_sipush {z : Int} (hd : decode M.2.1 pc = .ok (.sipush z, 3)) (hp : pc + 3 = pc') (hz : (Int16.ofInt z).toInt32 = Int32.ofInt z) (K : Z S X M d mc ms Q pc' lo (vi z :: st) μ k n) : Z S X M d mc ms Q pc lo (st) μ k n := by
  subst hp
  intro p l e R s m args below meth c b bs G QF H locs ls C h1 h2 h3 h4
  exact lv_sipush C.1 C.2.1 hd hz (K _ _ _ _ _ _ _ _ _ _ _ _ _ _ _ _ _ C h1 h2 h3 h4)
theorem Z_lconst {z : Fin 2} {v : Int64} (hd : decode M.2.1 pc = .ok (.lconst z, 1)) (hp : pc + 1 = pc') (hz : Int64.ofNat (z : Nat) = v) (K : Z S X M d mc ms Q pc' lo (.long v :: st) μ k n) : Z S X M d mc ms Q pc lo (st) μ k n := by
  subst hp
  intro p l e R s m args below meth c b bs G QF H locs ls C h1 h2 h3 h4
  exact lv_lconst C.1 C.2.1 hd hz (K _ _ _ _ _ _ _ _ _ _ _ _ _ _ _ _ _ C h1 h2 h3 h4)
theorem Z_ldc {index : Nat} {v : Int32} {z : Int} (hd : decode M.2.1 pc = .ok (.ldc index, 2)) (hp : pc + 2 = pc') (hc : Cond.constant M.1.cls index v ∈ lw_tbl) (hz : Int32.ofInt z = v) (K : Z S X M d mc ms Q pc' lo (vi z :: st) μ k n) : Z S X M d mc ms Q pc lo (st) μ k n := by
  subst hp
  intro p l e R s m args below meth c b bs G QF H locs ls C h1 h2 h3 h4
  subst hz
  exact lv_ldc C.1 C.2.1 C.2.2.2.1 (C.2.2.2.2.1 _ (lw_in hc rfl)) hd (K _ _ _ _ _ _ _ _ _ _ _ _ _ _ _ _ _ C h1 h2 h3 h4)
theorem Z_ldc2 {index : Nat} {v : Int64} (hd : decode M.2.1 pc = .ok (.ldc2_w index, 3)) (hp : pc + 3 = pc') (hc : Cond.constantLong M.1.cls index v ∈ lw_tbl) (K : Z S X M d mc ms Q pc' lo (.long v :: st) μ k n) : Z S X M d mc ms Q pc lo (st) μ k n := by
  subst hp
  intro p l e R s m args below meth c b bs G QF H locs ls C h1 h2 h3 h4
  exact lv_ldc2 C.1 C.2.1 C.2.2.2.1 (C.2.2.2.2.1 _ (lw_in hc rfl)) hd (K _ _ _ _ _ _ _ _ _ _ _ _ _ _ _ _ _ C h1 h2 h3 h4)
theorem Z_null  (hd : decode M.2.1 pc = .ok (.aconst_null, 1)) (hp : pc + 1 = pc') (K : Z S X M d mc ms Q pc' lo (.null :: st) μ k n) : Z S X M d mc ms Q pc lo (st) μ k n := by
  subst hp
  intro p l e R s m args below meth c b bs G QF H locs ls C h1 h2 h3 h4
  exact lv_null C.1 C.2.1 hd (K _ _ _ _ _ _ _ _ _ _ _ _ _ _ _ _ _ C h1 h2 h3 h4)
theorem Z_iload_n {j : Fin 4} {x : Int} (hd : decode M.2.1 pc = .ok (.iload_n j, 1)) (hp : pc + 1 = pc') (hl : lo[(j : Nat)]? = some (some (vi x))) (K : Z S X M d mc ms Q pc' lo (vi x :: st) μ k n) : Z S X M d mc ms Q pc lo (st) μ k n := by
  subst hp
  intro p l e R s m args below meth c b bs G QF H locs ls C h1 h2 h3 h4
  exact lv_iload_n C.1 C.2.1 hd rfl (h4.2.2 _ _ hl) (K _ _ _ _ _ _ _ _ _ _ _ _ _ _ _ _ _ C h1 h2 h3 h4)
theorem Z_iload {i : Nat} {x : Int} (hd : decode M.2.1 pc = .ok (.iload i, 2)) (hp : pc + 2 = pc') (hl : lo[i]? = some (some (vi x))) (K : Z S X M d mc ms Q pc' lo (vi x :: st) μ k n) : Z S X M d mc ms Q pc lo (st) μ k n := by
  subst hp
  intro p l e R s m args below meth c b bs G QF H locs ls C h1 h2 h3 h4
  exact lv_iload C.1 C.2.1 hd (h4.2.2 _ _ hl) (K _ _ _ _ _ _ _ _ _ _ _ _ _ _ _ _ _ C h1 h2 h3 h4)
theorem Z_lload_n {j : Fin 4} {x : Int64} (hd : decode M.2.1 pc = .ok (.lload_n j, 1)) (hp : pc + 1 = pc') (hl : lo[(j : Nat)]? = some (some (.long x))) (K : Z S X M d mc ms Q pc' lo (.long x :: st) μ k n) : Z S X M d mc ms Q pc lo (st) μ k n := by
  subst hp
  intro p l e R s m args below meth c b bs G QF H locs ls C h1 h2 h3 h4
  exact lv_lload_n C.1 C.2.1 hd rfl (h4.2.2 _ _ hl) (K _ _ _ _ _ _ _ _ _ _ _ _ _ _ _ _ _ C h1 h2 h3 h4)
theorem Z_lload {i : Nat} {x : Int64} (hd : decode M.2.1 pc = .ok (.lload i, 2)) (hp : pc + 2 = pc') (hl : lo[i]? = some (some (.long x))) (K : Z S X M d mc ms Q pc' lo (.long x :: st) μ k n) : Z S X M d mc ms Q pc lo (st) μ k n := by
  subst hp
  intro p l e R s m args below meth c b bs G QF H locs ls C h1 h2 h3 h4
  exact lv_lload C.1 C.2.1 hd (h4.2.2 _ _ hl) (K _ _ _ _ _ _ _ _ _ _ _ _ _ _ _ _ _ C h1 h2 h3 h4)
theorem Z_aload_n {j : Fin 4} {x : Nat} (hd : decode M.2.1 pc = .ok (.aload_n j, 1)) (hp : pc + 1 = pc') (hl : lo[(j : Nat)]? = some (some (.ref x))) (K : Z S X M d mc ms Q pc' lo (.ref x :: st) μ k n) : Z S X M d mc ms Q pc lo (st) μ k n := by
  subst hp
  intro p l e R s m args below meth c b bs G QF H locs ls C h1 h2 h3 h4
  exact lv_aload_n C.1 C.2.1 hd rfl (h4.2.2 _ _ hl) (K _ _ _ _ _ _ _ _ _ _ _ _ _ _ _ _ _ C h1 h2 h3 h4)
theorem Z_aload {i : Nat} {x : Nat} (hd : decode M.2.1 pc = .ok (.aload i, 2)) (hp : pc + 2 = pc') (hl : lo[i]? = some (some (.ref x))) (K : Z S X M d mc ms Q pc' lo (.ref x :: st) μ k n) : Z S X M d mc ms Q pc lo (st) μ k n := by
  subst hp
  intro p l e R s m args below meth c b bs G QF H locs ls C h1 h2 h3 h4
  exact lv_aload C.1 C.2.1 hd (h4.2.2 _ _ hl) (K _ _ _ _ _ _ _ _ _ _ _ _ _ _ _ _ _ C h1 h2 h3 h4)
theorem Z_aload_nS {j : Fin 4} {x : UInt32} (hd : decode M.2.1 pc = .ok (.aload_n j, 1)) (hp : pc + 1 = pc') (hl : lo[(j : Nat)]? = some (some (.float x))) (K : Z S X M d mc ms Q pc' lo (.float x :: st) μ k n) : Z S X M d mc ms Q pc lo (st) μ k n := by
  subst hp
  intro p l e R s m args below meth c b bs G QF H locs ls C h1 h2 h3 h4
  exact lv_aload_n C.1 C.2.1 hd rfl (h4.2.2 _ _ hl) (K _ _ _ _ _ _ _ _ _ _ _ _ _ _ _ _ _ C h1 h2 h3 h4)
theorem Z_istore {i : Nat} {x : Int} (hd : decode M.2.1 pc = .ok (.istore i, 2)) (hp : pc + 2 = pc') (hi : i < M.2.2.1) (hl : zst lo i (vi x) = lo') (K : Z S X M d mc ms Q pc' lo' (st) μ k n) : Z S X M d mc ms Q pc lo (vi x :: st) μ k n := by
  subst hp
  subst hl
  intro p l e R s m args below meth c b bs G QF H locs ls C h1 h2 h3 h4
  exact lv_istore C.1 C.2.1 hd (zll_has h4) hi rfl (fun ls' hl' => K _ _ _ _ _ _ _ _ _ _ _ _ _ _ _ _ _ C h1 h2 h3 (zL_st (v := vi x) hl'))
theorem Z_istore_n {j : Fin 4} {x : Int} (hd : decode M.2.1 pc = .ok (.istore_n j, 1)) (hp : pc + 1 = pc') (hi : (j : Nat) < M.2.2.1) (hl : zst lo (j : Nat) (vi x) = lo') (K : Z S X M d mc ms Q pc' lo' (st) μ k n) : Z S X M d mc ms Q pc lo (vi x :: st) μ k n := by
  subst hp
  subst hl
  intro p l e R s m args below meth c b bs G QF H locs ls C h1 h2 h3 h4
  exact lv_istore_n C.1 C.2.1 hd rfl (zll_has h4) hi rfl (fun ls' hl' => K _ _ _ _ _ _ _ _ _ _ _ _ _ _ _ _ _ C h1 h2 h3 (zL_st (v := vi x) hl'))
theorem Z_astore {i : Nat} {x : Nat} (hd : decode M.2.1 pc = .ok (.astore i, 2)) (hp : pc + 2 = pc') (hi : i < M.2.2.1) (hl : zst lo i (.ref x) = lo') (K : Z S X M d mc ms Q pc' lo' (st) μ k n) : Z S X M d mc ms Q pc lo (.ref x :: st) μ k n := by
  subst hp
  subst hl
  intro p l e R s m args below meth c b bs G QF H locs ls C h1 h2 h3 h4
  exact lv_astore C.1 C.2.1 hd (zll_has h4) hi rfl (fun ls' hl' => K _ _ _ _ _ _ _ _ _ _ _ _ _ _ _ _ _ C h1 h2 h3 (zL_st (v := .ref x) hl'))
theorem Z_astore_n {j : Fin 4} {x : Nat} (hd : decode M.2.1 pc = .ok (.astore_n j, 1)) (hp : pc + 1 = pc') (hi : (j : Nat) < M.2.2.1) (hl : zst lo (j : Nat) (.ref x) = lo') (K : Z S X M d mc ms Q pc' lo' (st) μ k n) : Z S X M d mc ms Q pc lo (.ref x :: st) μ k n := by
  subst hp
  subst hl
  intro p l e R s m args below meth c b bs G QF H locs ls C h1 h2 h3 h4
  exact lv_astore_n C.1 C.2.1 hd rfl (zll_has h4) hi rfl (fun ls' hl' => K _ _ _ _ _ _ _ _ _ _ _ _ _ _ _ _ _ C h1 h2 h3 (zL_st (v := .ref x) hl'))
theorem Z_lstore {i : Nat} {x : Int64} (hd : decode M.2.1 pc = .ok (.lstore i, 2)) (hp : pc + 2 = pc') (hi : i + 1 < M.2.2.1) (hl : zst2 lo i (.long x) = lo') (K : Z S X M d mc ms Q pc' lo' (st) μ k n) : Z S X M d mc ms Q pc lo (.long x :: st) μ k n := by
  subst hp
  subst hl
  intro p l e R s m args below meth c b bs G QF H locs ls C h1 h2 h3 h4
  exact lv_lstore C.1 C.2.1 hd (zll_has h4) hi rfl (fun ls' hl' => K _ _ _ _ _ _ _ _ _ _ _ _ _ _ _ _ _ C h1 h2 h3 (zL_st2 (v := .long x) hl'))
theorem Z_lstore_n {j : Fin 4} {x : Int64} (hd : decode M.2.1 pc = .ok (.lstore_n j, 1)) (hp : pc + 1 = pc') (hi : (j : Nat) + 1 < M.2.2.1) (hl : zst2 lo (j : Nat) (.long x) = lo') (K : Z S X M d mc ms Q pc' lo' (st) μ k n) : Z S X M d mc ms Q pc lo (.long x :: st) μ k n := by
  subst hp
  subst hl
  intro p l e R s m args below meth c b bs G QF H locs ls C h1 h2 h3 h4
  exact lv_lstore_n C.1 C.2.1 hd rfl (zll_has h4) hi rfl (fun ls' hl' => K _ _ _ _ _ _ _ _ _ _ _ _ _ _ _ _ _ C h1 h2 h3 (zL_st2 (v := .long x) hl'))
theorem Z_iinc {i : Nat} {z x : Int} (hd : decode M.2.1 pc = .ok (.iinc i z, 3)) (hp : pc + 3 = pc') (hi : i < M.2.2.1) (hx : lo[i]? = some (some (vi x))) (hl : zst lo i (vi (x + z)) = lo') (K : Z S X M d mc ms Q pc' lo' (st) μ k n) : Z S X M d mc ms Q pc lo (st) μ k n := by
  subst hp
  subst hl
  intro p l e R s m args below meth c b bs G QF H locs ls C h1 h2 h3 h4
  obtain ⟨q, hq⟩ := List.getElem?_of_mem (zll_mem (b := b) (bs := bs) hx)
  exact lv_iinc (x := Int32.ofInt x) (v := Int32.ofInt (x + z)) C.1 C.2.1 hd (zll_has h4) hq (by rw [Int32.ofInt_add]) hi rfl (fun ls' hl' => K _ _ _ _ _ _ _ _ _ _ _ _ _ _ _ _ _ C h1 h2 h3 (zL_st (v := vi (x + z)) hl'))
theorem Z_iadd {a b : Int} (hd : decode M.2.1 pc = .ok (.iadd, 1)) (hp : pc + 1 = pc') (K : Z S X M d mc ms Q pc' lo (vi (a + b) :: st) μ k n) : Z S X M d mc ms Q pc lo (vi b :: vi a :: st) μ k n := by
  subst hp
  intro p l e R s m args below meth c b' bs G QF H locs ls C h1 h2 h3 h4
  refine lv_iadd (x := Int32.ofInt a) (y := Int32.ofInt b) C.1 C.2.1 hd ?_
  rw [← Int32.ofInt_add]
  exact K _ _ _ _ _ _ _ _ _ _ _ _ _ _ _ _ _ C h1 h2 h3 h4
theorem Z_isub {a b : Int} (hd : decode M.2.1 pc = .ok (.isub, 1)) (hp : pc + 1 = pc') (K : Z S X M d mc ms Q pc' lo (vi (a - b) :: st) μ k n) : Z S X M d mc ms Q pc lo (vi b :: vi a :: st) μ k n := by
  subst hp
  intro p l e R s m args below meth c b' bs G QF H locs ls C h1 h2 h3 h4
  refine lv_isub (x := Int32.ofInt a) (y := Int32.ofInt b) C.1 C.2.1 hd ?_
  rw [← Int32.ofInt_sub]
  exact K _ _ _ _ _ _ _ _ _ _ _ _ _ _ _ _ _ C h1 h2 h3 h4
theorem Z_imul {a b : Int} (hd : decode M.2.1 pc = .ok (.imul, 1)) (hp : pc + 1 = pc') (K : Z S X M d mc ms Q pc' lo (vi (a * b) :: st) μ k n) : Z S X M d mc ms Q pc lo (vi b :: vi a :: st) μ k n := by
  subst hp
  intro p l e R s m args below meth c b' bs G QF H locs ls C h1 h2 h3 h4
  refine lv_imul (x := Int32.ofInt a) (y := Int32.ofInt b) C.1 C.2.1 hd ?_
  rw [← Int32.ofInt_mul]
  exact K _ _ _ _ _ _ _ _ _ _ _ _ _ _ _ _ _ C h1 h2 h3 h4
theorem Z_ineg {a : Int} (hd : decode M.2.1 pc = .ok (.ineg, 1)) (hp : pc + 1 = pc') (K : Z S X M d mc ms Q pc' lo (vi (-a) :: st) μ k n) : Z S X M d mc ms Q pc lo (vi a :: st) μ k n := by
  subst hp
  intro p l e R s m args below meth c b bs G QF H locs ls C h1 h2 h3 h4
  refine lv_ineg (x := Int32.ofInt a) C.1 C.2.1 hd ?_
  rw [← Int32.ofInt_neg]
  exact K _ _ _ _ _ _ _ _ _ _ _ _ _ _ _ _ _ C h1 h2 h3 h4
theorem Z_iand {a b z : Int} (hd : decode M.2.1 pc = .ok (.iand, 1)) (hp : pc + 1 = pc') (hz : Int32.ofInt a &&& Int32.ofInt b = Int32.ofInt z) (K : Z S X M d mc ms Q pc' lo (vi z :: st) μ k n) : Z S X M d mc ms Q pc lo (vi b :: vi a :: st) μ k n := by
  subst hp
  intro p l e R s m args below meth c b' bs G QF H locs ls C h1 h2 h3 h4
  refine lv_iand (x := Int32.ofInt a) (y := Int32.ofInt b) C.1 C.2.1 hd ?_
  rw [hz]
  exact K _ _ _ _ _ _ _ _ _ _ _ _ _ _ _ _ _ C h1 h2 h3 h4
theorem Z_ishl {a b z : Int} (hd : decode M.2.1 pc = .ok (.ishl, 1)) (hp : pc + 1 = pc') (hz : Int32.ofInt a <<< (Int32.ofInt b &&& 31) = Int32.ofInt z) (K : Z S X M d mc ms Q pc' lo (vi z :: st) μ k n) : Z S X M d mc ms Q pc lo (vi b :: vi a :: st) μ k n := by
  subst hp
  intro p l e R s m args below meth c b' bs G QF H locs ls C h1 h2 h3 h4
  refine lv_ishl (x := Int32.ofInt a) (y := Int32.ofInt b) C.1 C.2.1 hd ?_
  rw [hz]
  exact K _ _ _ _ _ _ _ _ _ _ _ _ _ _ _ _ _ C h1 h2 h3 h4
theorem Z_ishr {a b z : Int} (hd : decode M.2.1 pc = .ok (.ishr, 1)) (hp : pc + 1 = pc') (hz : Int32.ofInt a >>> (Int32.ofInt b &&& 31) = Int32.ofInt z) (K : Z S X M d mc ms Q pc' lo (vi z :: st) μ k n) : Z S X M d mc ms Q pc lo (vi b :: vi a :: st) μ k n := by
  subst hp
  intro p l e R s m args below meth c b' bs G QF H locs ls C h1 h2 h3 h4
  refine lv_ishr (x := Int32.ofInt a) (y := Int32.ofInt b) C.1 C.2.1 hd ?_
  rw [hz]
  exact K _ _ _ _ _ _ _ _ _ _ _ _ _ _ _ _ _ C h1 h2 h3 h4
theorem z_tdiv {a b : Int} (ha : zIn a) (hb : zIn b) : Int32.ofInt a / Int32.ofInt b = Int32.ofInt (a.tdiv b) := by
  rw [Int32.ofInt_tdiv] <;> first | (show _ ≤ _; have := ha.1; have := ha.2; have := hb.1; have := hb.2; first | (show (-2147483648 : Int) ≤ _; omega) | (show _ ≤ (2147483647 : Int); omega)) | skip
theorem Z_idiv {a b : Int} (hd : decode M.2.1 pc = .ok (.idiv, 1)) (hp : pc + 1 = pc') (ha : zIn a) (hb : zIn b) (h0 : ¬ b = 0) (K : Z S X M d mc ms Q pc' lo (vi (a.tdiv b) :: st) μ k n) : Z S X M d mc ms Q pc lo (vi b :: vi a :: st) μ k n := by
  subst hp
  intro p l e R s m args below meth c b' bs G QF H locs ls C h1 h2 h3 h4
  refine lv_idiv (x := Int32.ofInt a) (y := Int32.ofInt b) C.1 C.2.1 hd (fun h => h0 ((z_eq hb z_in0).mp h)) ?_
  rw [z_tdiv ha hb]
  exact K _ _ _ _ _ _ _ _ _ _ _ _ _ _ _ _ _ C h1 h2 h3 h4
theorem Z_irem {a b : Int} (hd : decode M.2.1 pc = .ok (.irem, 1)) (hp : pc + 1 = pc') (ha : zIn a) (hb : zIn b) (h0 : ¬ b = 0) (K : Z S X M d mc ms Q pc' lo (vi (a - a.tdiv b * b) :: st) μ k n) : Z S X M d mc ms Q pc lo (vi b :: vi a :: st) μ k n := by
  subst hp
  intro p l e R s m args below meth c b' bs G QF H locs ls C h1 h2 h3 h4
  refine lv_irem (x := Int32.ofInt a) (y := Int32.ofInt b) C.1 C.2.1 hd (fun h => h0 ((z_eq hb z_in0).mp h)) ?_
  rw [z_tdiv ha hb, ← Int32.ofInt_mul, ← Int32.ofInt_sub]
  exact K _ _ _ _ _ _ _ _ _ _ _ _ _ _ _ _ _ C h1 h2 h3 h4
theorem Z_ladd {x y : Int64} (hd : decode M.2.1 pc = .ok (.ladd, 1)) (hp : pc + 1 = pc') (K : Z S X M d mc ms Q pc' lo (.long (x + y) :: st) μ k n) : Z S X M d mc ms Q pc lo (.long y :: .long x :: st) μ k n := by
  subst hp
  intro p l e R s m args below meth c b bs G QF H locs ls C h1 h2 h3 h4
  exact lv_ladd C.1 C.2.1 hd (K _ _ _ _ _ _ _ _ _ _ _ _ _ _ _ _ _ C h1 h2 h3 h4)
theorem Z_lsub {x y : Int64} (hd : decode M.2.1 pc = .ok (.lsub, 1)) (hp : pc + 1 = pc') (K : Z S X M d mc ms Q pc' lo (.long (x - y) :: st) μ k n) : Z S X M d mc ms Q pc lo (.long y :: .long x :: st) μ k n := by
  subst hp
  intro p l e R s m args below meth c b bs G QF H locs ls C h1 h2 h3 h4
  exact lv_lsub C.1 C.2.1 hd (K _ _ _ _ _ _ _ _ _ _ _ _ _ _ _ _ _ C h1 h2 h3 h4)
theorem Z_lmul {x y : Int64} (hd : decode M.2.1 pc = .ok (.lmul, 1)) (hp : pc + 1 = pc') (K : Z S X M d mc ms Q pc' lo (.long (x * y) :: st) μ k n) : Z S X M d mc ms Q pc lo (.long y :: .long x :: st) μ k n := by
  subst hp
  intro p l e R s m args below meth c b bs G QF H locs ls C h1 h2 h3 h4
  exact lv_lmul C.1 C.2.1 hd (K _ _ _ _ _ _ _ _ _ _ _ _ _ _ _ _ _ C h1 h2 h3 h4)
theorem Z_land {x y : Int64} (hd : decode M.2.1 pc = .ok (.land, 1)) (hp : pc + 1 = pc') (K : Z S X M d mc ms Q pc' lo (.long (x &&& y) :: st) μ k n) : Z S X M d mc ms Q pc lo (.long y :: .long x :: st) μ k n := by
  subst hp
  intro p l e R s m args below meth c b bs G QF H locs ls C h1 h2 h3 h4
  exact lv_land C.1 C.2.1 hd (K _ _ _ _ _ _ _ _ _ _ _ _ _ _ _ _ _ C h1 h2 h3 h4)
theorem Z_lor {x y : Int64} (hd : decode M.2.1 pc = .ok (.lor, 1)) (hp : pc + 1 = pc') (K : Z S X M d mc ms Q pc' lo (.long (x ||| y) :: st) μ k n) : Z S X M d mc ms Q pc lo (.long y :: .long x :: st) μ k n := by
  subst hp
  intro p l e R s m args below meth c b bs G QF H locs ls C h1 h2 h3 h4
  exact lv_lor C.1 C.2.1 hd (K _ _ _ _ _ _ _ _ _ _ _ _ _ _ _ _ _ C h1 h2 h3 h4)
theorem Z_lxor {x y : Int64} (hd : decode M.2.1 pc = .ok (.lxor, 1)) (hp : pc + 1 = pc') (K : Z S X M d mc ms Q pc' lo (.long (x ^^^ y) :: st) μ k n) : Z S X M d mc ms Q pc lo (.long y :: .long x :: st) μ k n := by
  subst hp
  intro p l e R s m args below meth c b bs G QF H locs ls C h1 h2 h3 h4
  exact lv_lxor C.1 C.2.1 hd (K _ _ _ _ _ _ _ _ _ _ _ _ _ _ _ _ _ C h1 h2 h3 h4)
theorem Z_lushr {x : Int64} {y : Int} (hd : decode M.2.1 pc = .ok (.lushr, 1)) (hp : pc + 1 = pc') (K : Z S X M d mc ms Q pc' lo (.long ((x.toUInt64 >>> ((Int32.ofInt y).toInt64.toUInt64 &&& Int64.toUInt64 63)).toInt64) :: st) μ k n) : Z S X M d mc ms Q pc lo (vi y :: .long x :: st) μ k n := by
  subst hp
  intro p l e R s m args below meth c b bs G QF H locs ls C h1 h2 h3 h4
  exact lv_lushr (y := Int32.ofInt y) C.1 C.2.1 hd rfl (K _ _ _ _ _ _ _ _ _ _ _ _ _ _ _ _ _ C h1 h2 h3 h4)
theorem Z_lshl {x : Int64} {y : Int} (hd : decode M.2.1 pc = .ok (.lshl, 1)) (hp : pc + 1 = pc') (K : Z S X M d mc ms Q pc' lo (.long (x <<< ((Int32.ofInt y).toInt64 &&& 63)) :: st) μ k n) : Z S X M d mc ms Q pc lo (vi y :: .long x :: st) μ k n := by
  subst hp
  intro p l e R s m args below meth c b bs G QF H locs ls C h1 h2 h3 h4
  exact lv_lshl (y := Int32.ofInt y) C.1 C.2.1 hd rfl (K _ _ _ _ _ _ _ _ _ _ _ _ _ _ _ _ _ C h1 h2 h3 h4)
theorem Z_lshr {x : Int64} {y : Int} (hd : decode M.2.1 pc = .ok (.lshr, 1)) (hp : pc + 1 = pc') (K : Z S X M d mc ms Q pc' lo (.long (x >>> ((Int32.ofInt y).toInt64 &&& 63)) :: st) μ k n) : Z S X M d mc ms Q pc lo (vi y :: .long x :: st) μ k n := by
  subst hp
  intro p l e R s m args below meth c b bs G QF H locs ls C h1 h2 h3 h4
  exact lv_lshr (y := Int32.ofInt y) C.1 C.2.1 hd rfl (K _ _ _ _ _ _ _ _ _ _ _ _ _ _ _ _ _ C h1 h2 h3 h4)
theorem Z_i2l {a : Int} (hd : decode M.2.1 pc = .ok (.i2l, 1)) (hp : pc + 1 = pc') (K : Z S X M d mc ms Q pc' lo (.long (Int32.ofInt a).toInt64 :: st) μ k n) : Z S X M d mc ms Q pc lo (vi a :: st) μ k n := by
  subst hp
  intro p l e R s m args below meth c b bs G QF H locs ls C h1 h2 h3 h4
  exact lv_i2l (x := Int32.ofInt a) C.1 C.2.1 hd rfl (K _ _ _ _ _ _ _ _ _ _ _ _ _ _ _ _ _ C h1 h2 h3 h4)
theorem Z_l2i {x : Int64} (hd : decode M.2.1 pc = .ok (.l2i, 1)) (hp : pc + 1 = pc') (K : Z S X M d mc ms Q pc' lo (vi x.toInt32.toInt :: st) μ k n) : Z S X M d mc ms Q pc lo (.long x :: st) μ k n := by
  subst hp
  intro p l e R s m args below meth c b bs G QF H locs ls C h1 h2 h3 h4
  refine lv_l2i (v := Int32.ofInt x.toInt32.toInt) C.1 C.2.1 hd (by rw [Int32.ofInt_toInt]) (K _ _ _ _ _ _ _ _ _ _ _ _ _ _ _ _ _ C h1 h2 h3 h4)
def zcmp (x y : Int64) : Int := if x = y then 0 else if x < y then -1 else 1
theorem zcmp_lg (x y : Int64) : lg_cmp x y = Int32.ofInt (zcmp x y) := by
  unfold zcmp lg_cmp
  by_cases h : x = y
  · subst h
    simp
  · by_cases h2 : x < y
    · have h3 : ¬ y < x := fun h3 => by
        rw [Int64.lt_iff_toInt_lt] at h2 h3
        omega
      simp [h, h2, h3]
    · have h3 : y < x := by
        rw [Int64.lt_iff_toInt_lt] at h2 ⊢
        have : ¬ x.toInt = y.toInt := fun e => h (Int64.toInt_inj.mp e)
        omega
      simp [h, h2, h3]
theorem Z_lcmp {x y : Int64} (hd : decode M.2.1 pc = .ok (.lcmp, 1)) (hp : pc + 1 = pc') (K : Z S X M d mc ms Q pc' lo (vi (zcmp x y) :: st) μ k n) : Z S X M d mc ms Q pc lo (.long y :: .long x :: st) μ k n := by
  subst hp
  intro p l e R s m args below meth c b bs G QF H locs ls C h1 h2 h3 h4
  refine W.lcmp C.1 C.2.1 hd ?_
  rw [zcmp_lg]
  exact K _ _ _ _ _ _ _ _ _ _ _ _ _ _ _ _ _ C h1 h2 h3 h4
theorem Z_dup {v : Value} (hd : decode M.2.1 pc = .ok (.dup, 1)) (hp : pc + 1 = pc') (hc : v.category = 1) (K : Z S X M d mc ms Q pc' lo (v :: v :: st) μ k n) : Z S X M d mc ms Q pc lo (v :: st) μ k n := by
  subst hp
  intro p l e R s m args below meth c b bs G QF H locs ls C h1 h2 h3 h4
  exact lv_dup C.1 C.2.1 hd (by rw [zt_cat]; exact hc) (K _ _ _ _ _ _ _ _ _ _ _ _ _ _ _ _ _ C h1 h2 h3 h4)
theorem Z_dup2 {v w : Value} (hd : decode M.2.1 pc = .ok (.dup2, 1)) (hp : pc + 1 = pc') (hc : v.category = 1) (hw : w.category = 1) (K : Z S X M d mc ms Q pc' lo (v :: w :: v :: w :: st) μ k n) : Z S X M d mc ms Q pc lo (v :: w :: st) μ k n := by
  subst hp
  intro p l e R s m args below meth c b bs G QF H locs ls C h1 h2 h3 h4
  exact lv_dup2_11 C.1 C.2.1 hd (by rw [zt_cat]; exact hc) (by rw [zt_cat]; exact hw) (K _ _ _ _ _ _ _ _ _ _ _ _ _ _ _ _ _ C h1 h2 h3 h4)
theorem Z_pop {v : Value} (hd : decode M.2.1 pc = .ok (.pop, 1)) (hp : pc + 1 = pc') (hc : v.category = 1) (K : Z S X M d mc ms Q pc' lo (st) μ k n) : Z S X M d mc ms Q pc lo (v :: st) μ k n := by
  subst hp
  intro p l e R s m args below meth c b bs G QF H locs ls C h1 h2 h3 h4
  exact lv_pop C.1 C.2.1 hd (by rw [zt_cat]; exact hc) (K _ _ _ _ _ _ _ _ _ _ _ _ _ _ _ _ _ C h1 h2 h3 h4)
theorem Z_icmp_eq {a b : Int} {off : Int} (hd : decode M.2.1 pc = .ok (.if_icmp .eq off, 3)) (ht : (pc : Int) + off = (tgt : Int)) (hp : pc + 3 = pc') (ha : zIn a) (hb : zIn b) (kt : a = b → Z S X M d mc ms Q tgt lo (st) μ k n) (kf : ¬ (a = b) → Z S X M d mc ms Q pc' lo (st) μ k n) : Z S X M d mc ms Q pc lo (vi b :: vi a :: st) μ k n := by
  subst hp
  intro p l e R s m args below meth c b' bs G QF H locs ls C h1 h2 h3 h4
  have hi := (z_eq ha hb)
  exact lv_icmp_eq (x := Int32.ofInt a) (y := Int32.ofInt b) C.1 C.2.1 hd ht (fun h => kt (hi.mp h) _ _ _ _ _ _ _ _ _ _ _ _ _ _ _ _ _ C h1 h2 h3 h4) (fun h => kf (fun q => h (hi.mpr q)) _ _ _ _ _ _ _ _ _ _ _ _ _ _ _ _ _ C h1 h2 h3 h4)
theorem Z_if_eq {a : Int} {off : Int} (hd : decode M.2.1 pc = .ok (.ifCond .eq off, 3)) (ht : (pc : Int) + off = (tgt : Int)) (hp : pc + 3 = pc') (ha : zIn a) (kt : a = 0 → Z S X M d mc ms Q tgt lo (st) μ k n) (kf : ¬ (a = 0) → Z S X M d mc ms Q pc' lo (st) μ k n) : Z S X M d mc ms Q pc lo (vi a :: st) μ k n := by
  subst hp
  intro p l e R s m args below meth c b bs G QF H locs ls C h1 h2 h3 h4
  have hi := (z_eq ha z_in0)
  exact lv_if_eq (x := Int32.ofInt a) C.1 C.2.1 hd ht (fun h => kt (hi.mp h) _ _ _ _ _ _ _ _ _ _ _ _ _ _ _ _ _ C h1 h2 h3 h4) (fun h => kf (fun q => h (hi.mpr q)) _ _ _ _ _ _ _ _ _ _ _ _ _ _ _ _ _ C h1 h2 h3 h4)
theorem Z_icmp_ne {a b : Int} {off : Int} (hd : decode M.2.1 pc = .ok (.if_icmp .ne off, 3)) (ht : (pc : Int) + off = (tgt : Int)) (hp : pc + 3 = pc') (ha : zIn a) (hb : zIn b) (kt : ¬ a = b → Z S X M d mc ms Q tgt lo (st) μ k n) (kf : a = b → Z S X M d mc ms Q pc' lo (st) μ k n) : Z S X M d mc ms Q pc lo (vi b :: vi a :: st) μ k n := by
  subst hp
  intro p l e R s m args below meth c b' bs G QF H locs ls C h1 h2 h3 h4
  have hi := (not_congr (z_eq ha hb))
  exact lv_icmp_ne (x := Int32.ofInt a) (y := Int32.ofInt b) C.1 C.2.1 hd ht (fun h => kt (hi.mp h) _ _ _ _ _ _ _ _ _ _ _ _ _ _ _ _ _ C h1 h2 h3 h4) (fun h => kf ((z_eq ha hb).mp h) _ _ _ _ _ _ _ _ _ _ _ _ _ _ _ _ _ C h1 h2 h3 h4)
theorem Z_if_ne {a : Int} {off : Int} (hd : decode M.2.1 pc = .ok (.ifCond .ne off, 3)) (ht : (pc : Int) + off = (tgt : Int)) (hp : pc + 3 = pc') (ha : zIn a) (kt : ¬ a = 0 → Z S X M d mc ms Q tgt lo (st) μ k n) (kf : a = 0 → Z S X M d mc ms Q pc' lo (st) μ k n) : Z S X M d mc ms Q pc lo (vi a :: st) μ k n := by
  subst hp
  intro p l e R s m args below meth c b bs G QF H locs ls C h1 h2 h3 h4
  have hi := (not_congr (z_eq ha z_in0))
  exact lv_if_ne (x := Int32.ofInt a) C.1 C.2.1 hd ht (fun h => kt (hi.mp h) _ _ _ _ _ _ _ _ _ _ _ _ _ _ _ _ _ C h1 h2 h3 h4) (fun h => kf ((z_eq ha z_in0).mp h) _ _ _ _ _ _ _ _ _ _ _ _ _ _ _ _ _ C h1 h2 h3 h4)
theorem Z_icmp_lt {a b : Int} {off : Int} (hd : decode M.2.1 pc = .ok (.if_icmp .lt off, 3)) (ht : (pc : Int) + off = (tgt : Int)) (hp : pc + 3 = pc') (ha : zIn a) (hb : zIn b) (kt : a < b → Z S X M d mc ms Q tgt lo (st) μ k n) (kf : ¬ (a < b) → Z S X M d mc ms Q pc' lo (st) μ k n) : Z S X M d mc ms Q pc lo (vi b :: vi a :: st) μ k n := by
  subst hp
  intro p l e R s m args below meth c b' bs G QF H locs ls C h1 h2 h3 h4
  have hi := (z_lt ha hb)
  exact lv_icmp_lt (x := Int32.ofInt a) (y := Int32.ofInt b) C.1 C.2.1 hd ht (fun h => kt (hi.mp h) _ _ _ _ _ _ _ _ _ _ _ _ _ _ _ _ _ C h1 h2 h3 h4) (fun h => kf (fun q => h (hi.mpr q)) _ _ _ _ _ _ _ _ _ _ _ _ _ _ _ _ _ C h1 h2 h3 h4)
theorem Z_if_lt {a : Int} {off : Int} (hd : decode M.2.1 pc = .ok (.ifCond .lt off, 3)) (ht : (pc : Int) + off = (tgt : Int)) (hp : pc + 3 = pc') (ha : zIn a) (kt : a < 0 → Z S X M d mc ms Q tgt lo (st) μ k n) (kf : ¬ (a < 0) → Z S X M d mc ms Q pc' lo (st) μ k n) : Z S X M d mc ms Q pc lo (vi a :: st) μ k n := by
  subst hp
  intro p l e R s m args below meth c b bs G QF H locs ls C h1 h2 h3 h4
  have hi := (z_lt ha z_in0)
  exact lv_if_lt (x := Int32.ofInt a) C.1 C.2.1 hd ht (fun h => kt (hi.mp h) _ _ _ _ _ _ _ _ _ _ _ _ _ _ _ _ _ C h1 h2 h3 h4) (fun h => kf (fun q => h (hi.mpr q)) _ _ _ _ _ _ _ _ _ _ _ _ _ _ _ _ _ C h1 h2 h3 h4)
theorem Z_icmp_le {a b : Int} {off : Int} (hd : decode M.2.1 pc = .ok (.if_icmp .le off, 3)) (ht : (pc : Int) + off = (tgt : Int)) (hp : pc + 3 = pc') (ha : zIn a) (hb : zIn b) (kt : a ≤ b → Z S X M d mc ms Q tgt lo (st) μ k n) (kf : ¬ (a ≤ b) → Z S X M d mc ms Q pc' lo (st) μ k n) : Z S X M d mc ms Q pc lo (vi b :: vi a :: st) μ k n := by
  subst hp
  intro p l e R s m args below meth c b' bs G QF H locs ls C h1 h2 h3 h4
  have hi := (z_le ha hb)
  exact lv_icmp_le (x := Int32.ofInt a) (y := Int32.ofInt b) C.1 C.2.1 hd ht (fun h => kt (hi.mp h) _ _ _ _ _ _ _ _ _ _ _ _ _ _ _ _ _ C h1 h2 h3 h4) (fun h => kf (fun q => h (hi.mpr q)) _ _ _ _ _ _ _ _ _ _ _ _ _ _ _ _ _ C h1 h2 h3 h4)
theorem Z_if_le {a : Int} {off : Int} (hd : decode M.2.1 pc = .ok (.ifCond .le off, 3)) (ht : (pc : Int) + off = (tgt : Int)) (hp : pc + 3 = pc') (ha : zIn a) (kt : a ≤ 0 → Z S X M d mc ms Q tgt lo (st) μ k n) (kf : ¬ (a ≤ 0) → Z S X M d mc ms Q pc' lo (st) μ k n) : Z S X M d mc ms Q pc lo (vi a :: st) μ k n := by
  subst hp
  intro p l e R s m args below meth c b bs G QF H locs ls C h1 h2 h3 h4
  have hi := (z_le ha z_in0)
  exact lv_if_le (x := Int32.ofInt a) C.1 C.2.1 hd ht (fun h => kt (hi.mp h) _ _ _ _ _ _ _ _ _ _ _ _ _ _ _ _ _ C h1 h2 h3 h4) (fun h => kf (fun q => h (hi.mpr q)) _ _ _ _ _ _ _ _ _ _ _ _ _ _ _ _ _ C h1 h2 h3 h4)
theorem Z_icmp_gt {a b : Int} {off : Int} (hd : decode M.2.1 pc = .ok (.if_icmp .gt off, 3)) (ht : (pc : Int) + off = (tgt : Int)) (hp : pc + 3 = pc') (ha : zIn a) (hb : zIn b) (kt : b < a → Z S X M d mc ms Q tgt lo (st) μ k n) (kf : ¬ (b < a) → Z S X M d mc ms Q pc' lo (st) μ k n) : Z S X M d mc ms Q pc lo (vi b :: vi a :: st) μ k n := by
  subst hp
  intro p l e R s m args below meth c b' bs G QF H locs ls C h1 h2 h3 h4
  have hi := (z_lt hb ha)
  exact lv_icmp_gt (x := Int32.ofInt a) (y := Int32.ofInt b) C.1 C.2.1 hd ht (fun h => kt (hi.mp h) _ _ _ _ _ _ _ _ _ _ _ _ _ _ _ _ _ C h1 h2 h3 h4) (fun h => kf (fun q => h (hi.mpr q)) _ _ _ _ _ _ _ _ _ _ _ _ _ _ _ _ _ C h1 h2 h3 h4)
theorem Z_if_gt {a : Int} {off : Int} (hd : decode M.2.1 pc = .ok (.ifCond .gt off, 3)) (ht : (pc : Int) + off = (tgt : Int)) (hp : pc + 3 = pc') (ha : zIn a) (kt : 0 < a → Z S X M d mc ms Q tgt lo (st) μ k n) (kf : ¬ (0 < a) → Z S X M d mc ms Q pc' lo (st) μ k n) : Z S X M d mc ms Q pc lo (vi a :: st) μ k n := by
  subst hp
  intro p l e R s m args below meth c b bs G QF H locs ls C h1 h2 h3 h4
  have hi := (z_lt z_in0 ha)
  exact lv_if_gt (x := Int32.ofInt a) C.1 C.2.1 hd ht (fun h => kt (hi.mp h) _ _ _ _ _ _ _ _ _ _ _ _ _ _ _ _ _ C h1 h2 h3 h4) (fun h => kf (fun q => h (hi.mpr q)) _ _ _ _ _ _ _ _ _ _ _ _ _ _ _ _ _ C h1 h2 h3 h4)
theorem Z_icmp_ge {a b : Int} {off : Int} (hd : decode M.2.1 pc = .ok (.if_icmp .ge off, 3)) (ht : (pc : Int) + off = (tgt : Int)) (hp : pc + 3 = pc') (ha : zIn a) (hb : zIn b) (kt : b ≤ a → Z S X M d mc ms Q tgt lo (st) μ k n) (kf : ¬ (b ≤ a) → Z S X M d mc ms Q pc' lo (st) μ k n) : Z S X M d mc ms Q pc lo (vi b :: vi a :: st) μ k n := by
  subst hp
  intro p l e R s m args below meth c b' bs G QF H locs ls C h1 h2 h3 h4
  have hi := (z_le hb ha)
  exact lv_icmp_ge (x := Int32.ofInt a) (y := Int32.ofInt b) C.1 C.2.1 hd ht (fun h => kt (hi.mp h) _ _ _ _ _ _ _ _ _ _ _ _ _ _ _ _ _ C h1 h2 h3 h4) (fun h => kf (fun q => h (hi.mpr q)) _ _ _ _ _ _ _ _ _ _ _ _ _ _ _ _ _ C h1 h2 h3 h4)
theorem Z_if_ge {a : Int} {off : Int} (hd : decode M.2.1 pc = .ok (.ifCond .ge off, 3)) (ht : (pc : Int) + off = (tgt : Int)) (hp : pc + 3 = pc') (ha : zIn a) (kt : 0 ≤ a → Z S X M d mc ms Q tgt lo (st) μ k n) (kf : ¬ (0 ≤ a) → Z S X M d mc ms Q pc' lo (st) μ k n) : Z S X M d mc ms Q pc lo (vi a :: st) μ k n := by
  subst hp
  intro p l e R s m args below meth c b bs G QF H locs ls C h1 h2 h3 h4
  have hi := (z_le z_in0 ha)
  exact lv_if_ge (x := Int32.ofInt a) C.1 C.2.1 hd ht (fun h => kt (hi.mp h) _ _ _ _ _ _ _ _ _ _ _ _ _ _ _ _ _ C h1 h2 h3 h4) (fun h => kf (fun q => h (hi.mpr q)) _ _ _ _ _ _ _ _ _ _ _ _ _ _ _ _ _ C h1 h2 h3 h4)
theorem Z_goto {off : Int} (hd : decode M.2.1 pc = .ok (.goto off, 3)) (ht : (pc : Int) + off = (tgt : Int)) (K : Z S X M d mc ms Q tgt lo (st) μ k n) : Z S X M d mc ms Q pc lo (st) μ k n := by
  intro p l e R s m args below meth c b bs G QF H locs ls C h1 h2 h3 h4
  exact lv_goto C.1 C.2.1 hd ht (K _ _ _ _ _ _ _ _ _ _ _ _ _ _ _ _ _ C h1 h2 h3 h4)
theorem Z_ifnull {o : Option Nat} {off : Int} (hd : decode M.2.1 pc = .ok (.ifnull off, 3)) (ht : (pc : Int) + off = (tgt : Int)) (hp : pc + 3 = pc') (kt : o = none → Z S X M d mc ms Q tgt lo (st) μ k n) (kf : ∀ q, o = some q → Z S X M d mc ms Q pc' lo (st) μ k n) : Z S X M d mc ms Q pc lo (va_rf o :: st) μ k n := by
  subst hp
  intro p l e R s m args below meth c b bs G QF H locs ls C h1 h2 h3 h4
  cases o with
  | none => exact lv_ifnullN C.1 C.2.1 hd ht (kt rfl _ _ _ _ _ _ _ _ _ _ _ _ _ _ _ _ _ C h1 h2 h3 h4)
  | some q => exact lv_ifnull C.1 C.2.1 hd (kf q rfl _ _ _ _ _ _ _ _ _ _ _ _ _ _ _ _ _ C h1 h2 h3 h4)
theorem Z_ifnonnull {o : Option Nat} {off : Int} (hd : decode M.2.1 pc = .ok (.ifnonnull off, 3)) (ht : (pc : Int) + off = (tgt : Int)) (hp : pc + 3 = pc') (kt : ∀ q, o = some q → Z S X M d mc ms Q tgt lo (st) μ k n) (kf : o = none → Z S X M d mc ms Q pc' lo (st) μ k n) : Z S X M d mc ms Q pc lo (va_rf o :: st) μ k n := by
  subst hp
  intro p l e R s m args below meth c b bs G QF H locs ls C h1 h2 h3 h4
  cases o with
  | none => exact lv_ifnonnullN C.1 C.2.1 hd (kf rfl _ _ _ _ _ _ _ _ _ _ _ _ _ _ _ _ _ C h1 h2 h3 h4)
  | some q => exact lv_ifnonnull C.1 C.2.1 hd ht (kt q rfl _ _ _ _ _ _ _ _ _ _ _ _ _ _ _ _ _ C h1 h2 h3 h4)
theorem Z_tableIn {a dflt hi off : Int} {lw : Int} {offs : Array Int} {len : Nat} (hd : decode M.2.1 pc = .ok (.tableswitch dflt lw hi offs, len)) (ha : zIn a) (g1 : ¬ a < lw) (g2 : ¬ hi < a) (ho : offs[(a - lw).toNat]? = some off) (ht : (pc : Int) + off = (tgt : Int)) (K : Z S X M d mc ms Q tgt lo (st) μ k n) : Z S X M d mc ms Q pc lo (vi a :: st) μ k n := by
  intro p l e R s m args below meth c b bs G QF H locs ls C h1 h2 h3 h4
  exact lv_tableIn (x := Int32.ofInt a) C.1 C.2.1 hd (by rw [z_toInt ha]; exact g1) (by rw [z_toInt ha]; exact g2) (by rw [z_toInt ha]; exact ho) ht (K _ _ _ _ _ _ _ _ _ _ _ _ _ _ _ _ _ C h1 h2 h3 h4)
theorem Z_tableOut {a dflt hi : Int} {lw : Int} {offs : Array Int} {len : Nat} (hd : decode M.2.1 pc = .ok (.tableswitch dflt lw hi offs, len)) (ha : zIn a) (g : a < lw ∨ hi < a) (ht : (pc : Int) + dflt = (tgt : Int)) (K : Z S X M d mc ms Q tgt lo (st) μ k n) : Z S X M d mc ms Q pc lo (vi a :: st) μ k n := by
  intro p l e R s m args below meth c b bs G QF H locs ls C h1 h2 h3 h4
  exact lv_tableOut (x := Int32.ofInt a) C.1 C.2.1 hd (by rw [z_toInt ha]; exact g) ht (K _ _ _ _ _ _ _ _ _ _ _ _ _ _ _ _ _ C h1 h2 h3 h4)
theorem Z_lookup {a dflt off : Int} {ps : Array (Int × Int)} {len : Nat} (hd : decode M.2.1 pc = .ok (.lookupswitch dflt ps, len)) (ha : zIn a) (hs : (ps.toList.zip (ps.toList.drop 1)).all (fun (a, next) => a.1 < next.1) = true) (ho : Op.lookupswitch.offset ps.toList dflt a = off) (ht : (pc : Int) + off = (tgt : Int)) (K : Z S X M d mc ms Q tgt lo (st) μ k n) : Z S X M d mc ms Q pc lo (vi a :: st) μ k n := by
  intro p l e R s m args below meth c b bs G QF H locs ls C h1 h2 h3 h4
  exact lv_lookup (x := Int32.ofInt a) C.1 C.2.1 hd hs (by rw [z_toInt ha]; exact ho) ht (K _ _ _ _ _ _ _ _ _ _ _ _ _ _ _ _ _ C h1 h2 h3 h4)
theorem Z_ret {v : Option Value} {op : Instr} (hd : decode M.2.1 pc = .ok (op, 1)) (ho : zOp M.2.2.2 v op) (hk : k ≤ mc) (hn : n ≤ ms) (hq : Q v μ) : Z S X M d mc ms Q pc lo (v.toList) μ k n := by
  intro p l e R s m args below meth c b bs G QF H locs ls C h1 h2 h3 h4
  exact W.widen hk hn (C.2.2.2.2.2.2.2.2.2.2 v μ H locs ls pc op hd ho h1 h2 h3 hq)
theorem Z_ireturn {z : Int} {Q' : Int → zMem → Prop} (hd : decode M.2.1 pc = .ok (.ireturn, 1)) (ht : M.2.2.2 = some .int) (hk : k ≤ mc) (hn : n ≤ ms) (hq : Q' z μ) : Z S X M d mc ms (qI Q') pc lo [vi z] μ k n :=
  Z_ret (v := some (vi z)) hd (Or.inr (Or.inl ⟨z, ht, rfl, rfl⟩)) hk hn ⟨z, rfl, hq⟩
theorem Z_zreturn {z : Int} {Q' : Int → zMem → Prop} (hd : decode M.2.1 pc = .ok (.ireturn, 1)) (ht : M.2.2.2 = some .boolean) (hz : z = 0 ∨ z = 1) (hk : k ≤ mc) (hn : n ≤ ms) (hq : Q' z μ) : Z S X M d mc ms (qI Q') pc lo [vi z] μ k n :=
  Z_ret (v := some (vi z)) hd (Or.inr (Or.inr (Or.inl ⟨z, ht, hz, rfl, rfl⟩))) hk hn ⟨z, rfl, hq⟩
theorem Z_lreturn {z : Int64} {Q' : Int64 → zMem → Prop} (hd : decode M.2.1 pc = .ok (.lreturn, 1)) (ht : M.2.2.2 = some .long) (hk : k ≤ mc) (hn : n ≤ ms) (hq : Q' z μ) : Z S X M d mc ms (qL Q') pc lo [.long z] μ k n :=
  Z_ret (v := some (.long z)) hd (Or.inr (Or.inr (Or.inr (Or.inl ⟨z, ht, rfl, rfl⟩)))) hk hn ⟨z, rfl, hq⟩
theorem Z_areturn {z : Nat} {C : String} {Q' : Nat → zMem → Prop} (hd : decode M.2.1 pc = .ok (.areturn, 1)) (ht : M.2.2.2 = some (.object C)) (hk : k ≤ mc) (hn : n ≤ ms) (hq : Q' z μ) : Z S X M d mc ms (qR Q') pc lo [.ref z] μ k n :=
  Z_ret (v := some (.ref z)) hd (Or.inr (Or.inr (Or.inr (Or.inr ⟨C, z, ht, rfl, rfl⟩)))) hk hn ⟨z, rfl, hq⟩
theorem Z_return {Q' : zMem → Prop} (hd : decode M.2.1 pc = .ok (.return_, 1)) (ht : M.2.2.2 = none) (hk : k ≤ mc) (hn : n ≤ ms) (hq : Q' μ) : Z S X M d mc ms (qV Q') pc lo [] μ k n :=
  Z_ret (v := none) hd (Or.inl ⟨ht, rfl, rfl⟩) hk hn ⟨rfl, hq⟩
end ZRules
