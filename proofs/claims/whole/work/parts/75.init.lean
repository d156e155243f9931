/-! the constructors, over tables: kinds, references, numbers of what is there -/
abbrev zTB : Type := List (Nat × Nat) × List (Nat × Int × Option Nat) × List (Nat × Int × Int)
def S0 : zS := (fun _ _ => none, [])
def lkI : List (Nat × Int × Int) → Nat → Int → Int
  | [], _, _ => 0
  | t :: I, p, i => if p = t.1 ∧ i = t.2.1 then t.2.2 else lkI I p i
def lkR : List (Nat × Int × Option Nat) → Nat → Int → Option Nat
  | [], _, _ => none
  | t :: R, p, i => if p = t.1 ∧ i = t.2.1 then t.2.2 else lkR R p i
theorem lkI_no : ∀ (I : List (Nat × Int × Int)) (p : Nat), (∀ t ∈ I, t.1 ≠ p) → ∀ i, lkI I p i = 0
  | [], _, _, _ => rfl
  | t :: I, p, h, i => by
    unfold lkI
    rw [if_neg (fun q => h t List.mem_cons_self q.1.symm)]
    exact lkI_no I p (fun u hu => h u (List.mem_cons_of_mem _ hu)) i
theorem lkR_no : ∀ (R : List (Nat × Int × Option Nat)) (p : Nat), (∀ t ∈ R, t.1 ≠ p) → ∀ i, lkR R p i = none
  | [], _, _, _ => rfl
  | t :: R, p, h, i => by
    unfold lkR
    rw [if_neg (fun q => h t List.mem_cons_self q.1.symm)]
    exact lkR_no R p (fun u hu => h u (List.mem_cons_of_mem _ hu)) i
def ta (k n : Nat) (T : zTB) : zTB := (T.1 ++ [(k, n)], T.2.1, T.2.2)
def ti (p : Nat) (i v : Int) (T : zTB) : zTB := (T.1, T.2.1, (p, i, v) :: T.2.2)
def tr (p : Nat) (i : Int) (v : Option Nat) (T : zTB) : zTB := (T.1, (p, i, v) :: T.2.1, T.2.2)
theorem ta_new (k n : Nat) (T : zTB) : (ta k n T).1[T.1.length]? = some (k, n) := by
  show (T.1 ++ [(k, n)])[T.1.length]? = some (k, n)
  simp
def isM (T : zTB) (μ : zMem) : Prop := gD μ = T.1 ∧ gI μ = lkI T.2.2 ∧ gL μ = (fun _ _ => 0) ∧ gR μ = lkR T.2.1 ∧ (∀ t ∈ T.2.1, t.1 < T.1.length) ∧ ∀ t ∈ T.2.2, t.1 < T.1.length
theorem some_lt {α : Type} {l : List α} {i : Nat} {v : α} (h : l[i]? = some v) : i < l.length := (List.getElem?_eq_some_iff.mp h).1
theorem isM.nA {T : zTB} {μ : zMem} (h : isM T μ) (k n : Nat) : isM (ta k n T) (aD μ k n) := by
  obtain ⟨h1, h2, h3, h4, h5, h6⟩ := h
  have hl : (gD μ).length = T.1.length := congrArg List.length h1
  refine ⟨?_, ?_, ?_, ?_, fun t ht => ?_, fun t ht => ?_⟩
  · rw [gD_aD, h1]
    rfl
  · funext q j
    by_cases e : q = (gD μ).length
    · show (if q = (gD μ).length then (fun _ => 0) else gI μ q) j = lkI T.2.2 q j
      rw [if_pos e, lkI_no T.2.2 q (fun t ht => by have := h6 t ht; omega)]
    · rw [gI_aDn e, h2]
      rfl
  · funext q j
    by_cases e : q = (gD μ).length
    · show (if q = (gD μ).length then (fun _ => 0) else gL μ q) j = 0
      rw [if_pos e]
    · rw [gL_aDn e, h3]
  · funext q j
    by_cases e : q = (gD μ).length
    · show (if q = (gD μ).length then (fun _ => none) else gR μ q) j = lkR T.2.1 q j
      rw [if_pos e, lkR_no T.2.1 q (fun t ht => by have := h5 t ht; omega)]
    · rw [gR_aDn e, h4]
      rfl
  · have := h5 t ht
    show t.1 < (T.1 ++ [(k, n)]).length
    rw [List.length_append]
    omega
  · have := h6 t ht
    show t.1 < (T.1 ++ [(k, n)]).length
    rw [List.length_append]
    omega
theorem isM.nI {T : zTB} {μ : zMem} {p : Nat} {c : Nat × Nat} (h : isM T μ) (i v : Int) (hp : T.1[p]? = some c) : isM (ti p i v T) (sI μ p i v) := by
  obtain ⟨h1, h2, h3, h4, h5, h6⟩ := h
  refine ⟨h1, ?_, h3, h4, h5, fun t ht => ?_⟩
  · funext q j
    rw [gI_sI, h2]
    rfl
  · rcases List.mem_cons.mp ht with e | e
    · rw [e]
      exact some_lt hp
    · exact h6 t e
theorem isM.nR {T : zTB} {μ : zMem} {p : Nat} {c : Nat × Nat} (h : isM T μ) (i : Int) (v : Option Nat) (hp : T.1[p]? = some c) : isM (tr p i v T) (sR μ p i v) := by
  obtain ⟨h1, h2, h3, h4, h5, h6⟩ := h
  refine ⟨h1, h2, h3, ?_, fun t ht => ?_, h6⟩
  · funext q j
    rw [gR_sR, h4]
    rfl
  · rcases List.mem_cons.mp ht with e | e
    · rw [e]
      exact some_lt hp
    · exact h5 t e
def ar (k n : Nat) (f : Int) (p : Nat) (T : zTB) : zTB := tr p f (some T.1.length) (ta k n T)
def ob (c : Nat) (e : Nat → zTB → zTB) (f : Int) (p : Nat) (T : zTB) : zTB := tr p f (some T.1.length) (e T.1.length (ta c 0 T))
def fl8 (q : Nat) (T : zTB) : zTB := ti q 7 1 (ti q 6 1 (ti q 5 1 (ti q 4 1 (ti q 3 1 (ti q 2 1 (ti q 1 1 (ti q 0 1 T)))))))
def eX0 (p : Nat) (T : zTB) : zTB := ar 9 37 2 p (ar 9 1296 1 p (ar 9 1296 0 p T))
def eX1 (p : Nat) (T : zTB) : zTB := ar 10 36 3 p (ar 9 30 2 p (ti p 1 1 (ti p 0 0 T)))
def eX3 (p : Nat) (T : zTB) : zTB := ar 9 196 6 p (ar 9 196 5 p (ar 9 14 4 p (ar 9 14 3 p (ar 9 14 2 p (ar 9 14 1 p (ti p 0 0 T))))))
def eX4 (p : Nat) (T : zTB) : zTB := ar 9 15 15 p (ar 9 14 11 p (ar 9 14 10 p (ar 9 14 9 p (ar 9 14 8 p (ar 9 15 7 p (ar 9 504 6 p (ob 3 eX3 1 p (ob 0 eX0 0 p T))))))))
def eX5a (p : Nat) (T : zTB) : zTB := ar 9 42 2 p (ti p 1 0 (ob 1 eX1 0 p T))
def eX5 (p : Nat) (T : zTB) : zTB := ti (eX5a p T).1.length 7 9 (ti (eX5a p T).1.length 4 0 (fl8 (eX5a p T).1.length (tr p 4 none (ar 9 8 3 p (eX5a p T)))))
def eX6 (p : Nat) (T : zTB) : zTB := ti p 2 0 (ar 9 42 1 p (ti p 0 0 T))
def eX7a (p : Nat) (T : zTB) : zTB := ob 4 eX4 6 p (ob 6 eX6 5 p (ti p 4 0 (ar 9 80 3 p (ti p 2 0 (ar 11 4 1 p (ob 5 eX5 0 p T))))))
def hs5 (q : Nat) (j : Int) (T : zTB) : zTB := tr q j (some T.1.length) (eX5 T.1.length (ta 5 0 T))
def eX8a (p : Nat) (T : zTB) : zTB := ar 9 42 17 p (ar 9 80 14 p (ar 9 14 9 p (ar 9 14 8 p (ar 9 70 6 p (ar 9 98 5 p (ar 10 36 4 p (ar 9 1296 3 p (ar 9 1296 2 p (ar 9 1285 0 p T)))))))))
def eX8 (p : Nat) (T : zTB) : zTB := ti T.1.length 81 9 (ti T.1.length 80 1 (ti T.1.length 79 1 (ti T.1.length 77 1 (ti T.1.length 76 1 (ti T.1.length 75 1 (ti T.1.length 74 1 (eX8a p T)))))))
theorem eX0_pre {q i : Nat} {T : zTB} {c : Nat × Nat} (h : T.1[i]? = some c) : (eX0 q T).1[i]? = some c := app_l (app_l (app_l h))
theorem eX1_pre {q i : Nat} {T : zTB} {c : Nat × Nat} (h : T.1[i]? = some c) : (eX1 q T).1[i]? = some c := app_l (app_l h)
theorem eX3_pre {q i : Nat} {T : zTB} {c : Nat × Nat} (h : T.1[i]? = some c) : (eX3 q T).1[i]? = some c := app_l (app_l (app_l (app_l (app_l (app_l h)))))
theorem eX4_pre {q i : Nat} {T : zTB} {c : Nat × Nat} (h : T.1[i]? = some c) : (eX4 q T).1[i]? = some c := app_l (app_l (app_l (app_l (app_l (app_l (app_l (eX3_pre (app_l (eX0_pre (app_l h))))))))))
theorem eX5_pre {q i : Nat} {T : zTB} {c : Nat × Nat} (h : T.1[i]? = some c) : (eX5 q T).1[i]? = some c := app_l (app_l (eX1_pre (app_l h)))
theorem eX6_pre {q i : Nat} {T : zTB} {c : Nat × Nat} (h : T.1[i]? = some c) : (eX6 q T).1[i]? = some c := app_l h
theorem fill8 {d q : Nat} {Q : zMem → Prop} {T : zTB} {μ : zMem} (hm : isM T μ) (hq : T.1[q]? = some (9, 8)) (hQ : ∀ μ', isM (fl8 q T) μ' → Q μ') : kJ7_fill_53178 S0 d q 1 μ Q := by
  have h0 : (gD μ)[q]? = some (9, 8) := by rw [hm.1]; exact hq
  refine bJ7_fill_53178 h0 (by decide) ⟨8, h0, ?_⟩
  refine bJ7_fill_53178_5 (n0 := 8) h0 (by decide) ⟨zi _, zi _, fun h => absurd h (by decide), fun _ => ⟨by decide, by decide, ?_⟩⟩
  refine bJ7_fill_53178_5 (n0 := 8) h0 (by decide) ⟨zi _, zi _, fun h => absurd h (by decide), fun _ => ⟨by decide, by decide, ?_⟩⟩
  refine bJ7_fill_53178_5 (n0 := 8) h0 (by decide) ⟨zi _, zi _, fun h => absurd h (by decide), fun _ => ⟨by decide, by decide, ?_⟩⟩
  refine bJ7_fill_53178_5 (n0 := 8) h0 (by decide) ⟨zi _, zi _, fun h => absurd h (by decide), fun _ => ⟨by decide, by decide, ?_⟩⟩
  refine bJ7_fill_53178_5 (n0 := 8) h0 (by decide) ⟨zi _, zi _, fun h => absurd h (by decide), fun _ => ⟨by decide, by decide, ?_⟩⟩
  refine bJ7_fill_53178_5 (n0 := 8) h0 (by decide) ⟨zi _, zi _, fun h => absurd h (by decide), fun _ => ⟨by decide, by decide, ?_⟩⟩
  refine bJ7_fill_53178_5 (n0 := 8) h0 (by decide) ⟨zi _, zi _, fun h => absurd h (by decide), fun _ => ⟨by decide, by decide, ?_⟩⟩
  refine bJ7_fill_53178_5 (n0 := 8) h0 (by decide) ⟨zi _, zi _, fun h => absurd h (by decide), fun _ => ⟨by decide, by decide, ?_⟩⟩
  refine bJ7_fill_53178_5 (n0 := 8) h0 (by decide) ⟨zi _, zi _, fun _ => ?_, fun h => absurd (by decide) h⟩
  exact hQ _ ((((((((hm.nI 0 1 hq).nI 1 1 hq).nI 2 1 hq).nI 3 1 hq).nI 4 1 hq).nI 5 1 hq).nI 6 1 hq).nI 7 1 hq)
theorem pX0_init {d p0 : Nat} {Q : zMem → Prop} {T : zTB} {μ : zMem} (hm : isM T μ) (hp : T.1[p0]? = some (0, 0)) (hQ : ∀ μ', isM (eX0 p0 T) μ' → Q μ') : kX0_init S0 (d + 1) p0 μ Q := by
  refine bX0_init ?_
  refine ⟨by decide, ?_⟩
  refine ⟨by decide, ?_⟩
  intro q1 hq1
  have eq1 : q1 = T.1.length := hq1.trans (congrArg List.length hm.1)
  have m1 := hm.nA 9 1296
  have Hq1 : (ta 9 1296 T).1[q1]? = some (9, 1296) := by rw [eq1]; exact (ta_new 9 1296 T)
  refine ⟨by rw [m1.1]; exact (app_l hp), ?_⟩
  refine ⟨Or.inl rfl, ?_⟩
  refine ⟨by decide, ?_⟩
  refine ⟨by decide, ?_⟩
  have m2 := m1.nR 0 (some q1) (app_l hp)
  intro q7 hq7
  have eq7 : q7 = (tr p0 0 (some q1) (ta 9 1296 T)).1.length := hq7.trans (congrArg List.length m2.1)
  have m3 := m2.nA 9 1296
  have Hq7 : (ta 9 1296 (tr p0 0 (some q1) (ta 9 1296 T))).1[q7]? = some (9, 1296) := by rw [eq7]; exact (ta_new 9 1296 (tr p0 0 (some q1) (ta 9 1296 T)))
  refine ⟨by rw [m3.1]; exact (app_l (app_l hp)), ?_⟩
  refine ⟨Or.inl rfl, ?_⟩
  refine ⟨by decide, ?_⟩
  refine ⟨by decide, ?_⟩
  have m4 := m3.nR 1 (some q7) (app_l (app_l hp))
  intro q13 hq13
  have eq13 : q13 = (tr p0 1 (some q7) (ta 9 1296 (tr p0 0 (some q1) (ta 9 1296 T)))).1.length := hq13.trans (congrArg List.length m4.1)
  have m5 := m4.nA 9 37
  have Hq13 : (ta 9 37 (tr p0 1 (some q7) (ta 9 1296 (tr p0 0 (some q1) (ta 9 1296 T))))).1[q13]? = some (9, 37) := by rw [eq13]; exact (ta_new 9 37 (tr p0 1 (some q7) (ta 9 1296 (tr p0 0 (some q1) (ta 9 1296 T)))))
  refine ⟨by rw [m5.1]; exact (app_l (app_l (app_l hp))), ?_⟩
  refine ⟨Or.inl rfl, ?_⟩
  refine ⟨by decide, ?_⟩
  refine ⟨by decide, ?_⟩
  have m6 := m5.nR 2 (some q13) (app_l (app_l (app_l hp)))
  subst eq1
  subst eq7
  subst eq13
  exact hQ _ m6
theorem pX1_init {d p0 : Nat} {Q : zMem → Prop} {T : zTB} {μ : zMem} (hm : isM T μ) (hp : T.1[p0]? = some (1, 0)) (hQ : ∀ μ', isM (eX1 p0 T) μ' → Q μ') : kX1_init S0 (d + 1) p0 μ Q := by
  refine bX1_init ?_
  refine ⟨by rw [hm.1]; exact hp, ?_⟩
  refine ⟨by decide, ?_⟩
  refine ⟨by decide, ?_⟩
  have m1 := hm.nI 0 0 hp
  have m2 := m1.nI 1 1 hp
  intro q2 hq2
  have eq2 : q2 = (ti p0 1 1 (ti p0 0 0 T)).1.length := hq2.trans (congrArg List.length m2.1)
  have m3 := m2.nA 9 30
  have Hq2 : (ta 9 30 (ti p0 1 1 (ti p0 0 0 T))).1[q2]? = some (9, 30) := by rw [eq2]; exact (ta_new 9 30 (ti p0 1 1 (ti p0 0 0 T)))
  refine ⟨by rw [m3.1]; exact (app_l hp), ?_⟩
  refine ⟨Or.inl rfl, ?_⟩
  refine ⟨by decide, ?_⟩
  refine ⟨by decide, ?_⟩
  have m4 := m3.nR 2 (some q2) (app_l hp)
  intro q8 hq8
  have eq8 : q8 = (tr p0 2 (some q2) (ta 9 30 (ti p0 1 1 (ti p0 0 0 T)))).1.length := hq8.trans (congrArg List.length m4.1)
  have m5 := m4.nA 10 36
  have Hq8 : (ta 10 36 (tr p0 2 (some q2) (ta 9 30 (ti p0 1 1 (ti p0 0 0 T))))).1[q8]? = some (10, 36) := by rw [eq8]; exact (ta_new 10 36 (tr p0 2 (some q2) (ta 9 30 (ti p0 1 1 (ti p0 0 0 T)))))
  refine ⟨by rw [m5.1]; exact (app_l (app_l hp)), ?_⟩
  refine ⟨Or.inl rfl, ?_⟩
  refine ⟨by decide, ?_⟩
  refine ⟨by decide, ?_⟩
  have m6 := m5.nR 3 (some q8) (app_l (app_l hp))
  subst eq2
  subst eq8
  exact hQ _ m6
theorem pX3_init {d p0 : Nat} {Q : zMem → Prop} {T : zTB} {μ : zMem} (hm : isM T μ) (hp : T.1[p0]? = some (3, 0)) (hQ : ∀ μ', isM (eX3 p0 T) μ' → Q μ') : kX3_init S0 (d + 1) p0 μ Q := by
  refine bX3_init ?_
  refine ⟨by rw [hm.1]; exact hp, ?_⟩
  refine ⟨by decide, ?_⟩
  refine ⟨by decide, ?_⟩
  have m1 := hm.nI 0 0 hp
  intro q2 hq2
  have eq2 : q2 = (ti p0 0 0 T).1.length := hq2.trans (congrArg List.length m1.1)
  have m2 := m1.nA 9 14
  have Hq2 : (ta 9 14 (ti p0 0 0 T)).1[q2]? = some (9, 14) := by rw [eq2]; exact (ta_new 9 14 (ti p0 0 0 T))
  refine ⟨by rw [m2.1]; exact (app_l hp), ?_⟩
  refine ⟨Or.inl rfl, ?_⟩
  refine ⟨by decide, ?_⟩
  refine ⟨by decide, ?_⟩
  have m3 := m2.nR 1 (some q2) (app_l hp)
  intro q8 hq8
  have eq8 : q8 = (tr p0 1 (some q2) (ta 9 14 (ti p0 0 0 T))).1.length := hq8.trans (congrArg List.length m3.1)
  have m4 := m3.nA 9 14
  have Hq8 : (ta 9 14 (tr p0 1 (some q2) (ta 9 14 (ti p0 0 0 T)))).1[q8]? = some (9, 14) := by rw [eq8]; exact (ta_new 9 14 (tr p0 1 (some q2) (ta 9 14 (ti p0 0 0 T))))
  refine ⟨by rw [m4.1]; exact (app_l (app_l hp)), ?_⟩
  refine ⟨Or.inl rfl, ?_⟩
  refine ⟨by decide, ?_⟩
  refine ⟨by decide, ?_⟩
  have m5 := m4.nR 2 (some q8) (app_l (app_l hp))
  intro q14 hq14
  have eq14 : q14 = (tr p0 2 (some q8) (ta 9 14 (tr p0 1 (some q2) (ta 9 14 (ti p0 0 0 T))))).1.length := hq14.trans (congrArg List.length m5.1)
  have m6 := m5.nA 9 14
  have Hq14 : (ta 9 14 (tr p0 2 (some q8) (ta 9 14 (tr p0 1 (some q2) (ta 9 14 (ti p0 0 0 T)))))).1[q14]? = some (9, 14) := by rw [eq14]; exact (ta_new 9 14 (tr p0 2 (some q8) (ta 9 14 (tr p0 1 (some q2) (ta 9 14 (ti p0 0 0 T))))))
  refine ⟨by rw [m6.1]; exact (app_l (app_l (app_l hp))), ?_⟩
  refine ⟨Or.inl rfl, ?_⟩
  refine ⟨by decide, ?_⟩
  refine ⟨by decide, ?_⟩
  have m7 := m6.nR 3 (some q14) (app_l (app_l (app_l hp)))
  intro q20 hq20
  have eq20 : q20 = (tr p0 3 (some q14) (ta 9 14 (tr p0 2 (some q8) (ta 9 14 (tr p0 1 (some q2) (ta 9 14 (ti p0 0 0 T))))))).1.length := hq20.trans (congrArg List.length m7.1)
  have m8 := m7.nA 9 14
  have Hq20 : (ta 9 14 (tr p0 3 (some q14) (ta 9 14 (tr p0 2 (some q8) (ta 9 14 (tr p0 1 (some q2) (ta 9 14 (ti p0 0 0 T)))))))).1[q20]? = some (9, 14) := by rw [eq20]; exact (ta_new 9 14 (tr p0 3 (some q14) (ta 9 14 (tr p0 2 (some q8) (ta 9 14 (tr p0 1 (some q2) (ta 9 14 (ti p0 0 0 T))))))))
  refine ⟨by rw [m8.1]; exact (app_l (app_l (app_l (app_l hp)))), ?_⟩
  refine ⟨Or.inl rfl, ?_⟩
  refine ⟨by decide, ?_⟩
  refine ⟨by decide, ?_⟩
  have m9 := m8.nR 4 (some q20) (app_l (app_l (app_l (app_l hp))))
  intro q26 hq26
  have eq26 : q26 = (tr p0 4 (some q20) (ta 9 14 (tr p0 3 (some q14) (ta 9 14 (tr p0 2 (some q8) (ta 9 14 (tr p0 1 (some q2) (ta 9 14 (ti p0 0 0 T))))))))).1.length := hq26.trans (congrArg List.length m9.1)
  have m10 := m9.nA 9 196
  have Hq26 : (ta 9 196 (tr p0 4 (some q20) (ta 9 14 (tr p0 3 (some q14) (ta 9 14 (tr p0 2 (some q8) (ta 9 14 (tr p0 1 (some q2) (ta 9 14 (ti p0 0 0 T)))))))))).1[q26]? = some (9, 196) := by rw [eq26]; exact (ta_new 9 196 (tr p0 4 (some q20) (ta 9 14 (tr p0 3 (some q14) (ta 9 14 (tr p0 2 (some q8) (ta 9 14 (tr p0 1 (some q2) (ta 9 14 (ti p0 0 0 T))))))))))
  refine ⟨by rw [m10.1]; exact (app_l (app_l (app_l (app_l (app_l hp))))), ?_⟩
  refine ⟨Or.inl rfl, ?_⟩
  refine ⟨by decide, ?_⟩
  refine ⟨by decide, ?_⟩
  have m11 := m10.nR 5 (some q26) (app_l (app_l (app_l (app_l (app_l hp)))))
  intro q32 hq32
  have eq32 : q32 = (tr p0 5 (some q26) (ta 9 196 (tr p0 4 (some q20) (ta 9 14 (tr p0 3 (some q14) (ta 9 14 (tr p0 2 (some q8) (ta 9 14 (tr p0 1 (some q2) (ta 9 14 (ti p0 0 0 T))))))))))).1.length := hq32.trans (congrArg List.length m11.1)
  have m12 := m11.nA 9 196
  have Hq32 : (ta 9 196 (tr p0 5 (some q26) (ta 9 196 (tr p0 4 (some q20) (ta 9 14 (tr p0 3 (some q14) (ta 9 14 (tr p0 2 (some q8) (ta 9 14 (tr p0 1 (some q2) (ta 9 14 (ti p0 0 0 T)))))))))))).1[q32]? = some (9, 196) := by rw [eq32]; exact (ta_new 9 196 (tr p0 5 (some q26) (ta 9 196 (tr p0 4 (some q20) (ta 9 14 (tr p0 3 (some q14) (ta 9 14 (tr p0 2 (some q8) (ta 9 14 (tr p0 1 (some q2) (ta 9 14 (ti p0 0 0 T))))))))))))
  refine ⟨by rw [m12.1]; exact (app_l (app_l (app_l (app_l (app_l (app_l hp)))))), ?_⟩
  refine ⟨Or.inl rfl, ?_⟩
  refine ⟨by decide, ?_⟩
  refine ⟨by decide, ?_⟩
  have m13 := m12.nR 6 (some q32) (app_l (app_l (app_l (app_l (app_l (app_l hp))))))
  subst eq2
  subst eq8
  subst eq14
  subst eq20
  subst eq26
  subst eq32
  exact hQ _ m13
theorem pX6_init {d p0 : Nat} {Q : zMem → Prop} {T : zTB} {μ : zMem} (hm : isM T μ) (hp : T.1[p0]? = some (6, 0)) (hQ : ∀ μ', isM (eX6 p0 T) μ' → Q μ') : kX6_init S0 (d + 1) p0 μ Q := by
  refine bX6_init ?_
  refine ⟨by rw [hm.1]; exact hp, ?_⟩
  refine ⟨by decide, ?_⟩
  refine ⟨by decide, ?_⟩
  have m1 := hm.nI 0 0 hp
  intro q2 hq2
  have eq2 : q2 = (ti p0 0 0 T).1.length := hq2.trans (congrArg List.length m1.1)
  have m2 := m1.nA 9 42
  have Hq2 : (ta 9 42 (ti p0 0 0 T)).1[q2]? = some (9, 42) := by rw [eq2]; exact (ta_new 9 42 (ti p0 0 0 T))
  refine ⟨by rw [m2.1]; exact (app_l hp), ?_⟩
  refine ⟨Or.inl rfl, ?_⟩
  have m3 := m2.nR 1 (some q2) (app_l hp)
  refine ⟨by rw [m3.1]; exact (app_l hp), ?_⟩
  refine ⟨by decide, ?_⟩
  refine ⟨by decide, ?_⟩
  have m4 := m3.nI 2 0 (app_l hp)
  subst eq2
  exact hQ _ m4
theorem pX4_init {d p0 : Nat} {Q : zMem → Prop} {T : zTB} {μ : zMem} (hm : isM T μ) (hp : T.1[p0]? = some (4, 0)) (hQ : ∀ μ', isM (eX4 p0 T) μ' → Q μ') : kX4_init S0 (d + 2) p0 μ Q := by
  refine bX4_init ?_
  refine ⟨by decide, ?_⟩
  refine ⟨by decide, ?_⟩
  intro q1 hq1
  have eq1 : q1 = T.1.length := hq1.trans (congrArg List.length hm.1)
  refine ⟨by decide, ?_⟩
  refine ⟨by decide, ?_⟩
  have m1 := hm.nA 0 0
  have Hq1 : (ta 0 0 T).1[q1]? = some (0, 0) := by rw [eq1]; exact (ta_new 0 0 T)
  refine pX0_init m1 Hq1 ?_
  intro μ7 hw7
  refine ⟨by rw [hw7.1]; exact (eX0_pre (app_l hp)), ?_⟩
  refine ⟨Or.inl rfl, ?_⟩
  refine ⟨by decide, ?_⟩
  refine ⟨by decide, ?_⟩
  have m2 := hw7.nR 0 (some q1) (eX0_pre (app_l hp))
  intro q10 hq10
  have eq10 : q10 = (tr p0 0 (some q1) (eX0 q1 (ta 0 0 T))).1.length := hq10.trans (congrArg List.length m2.1)
  refine ⟨by decide, ?_⟩
  refine ⟨by decide, ?_⟩
  have m3 := m2.nA 3 0
  have Hq10 : (ta 3 0 (tr p0 0 (some q1) (eX0 q1 (ta 0 0 T)))).1[q10]? = some (3, 0) := by rw [eq10]; exact (ta_new 3 0 (tr p0 0 (some q1) (eX0 q1 (ta 0 0 T))))
  refine pX3_init m3 Hq10 ?_
  intro μ16 hw16
  refine ⟨by rw [hw16.1]; exact (eX3_pre (app_l (eX0_pre (app_l hp)))), ?_⟩
  refine ⟨Or.inl rfl, ?_⟩
  refine ⟨by decide, ?_⟩
  refine ⟨by decide, ?_⟩
  have m4 := hw16.nR 1 (some q10) (eX3_pre (app_l (eX0_pre (app_l hp))))
  intro q19 hq19
  have eq19 : q19 = (tr p0 1 (some q10) (eX3 q10 (ta 3 0 (tr p0 0 (some q1) (eX0 q1 (ta 0 0 T)))))).1.length := hq19.trans (congrArg List.length m4.1)
  have m5 := m4.nA 9 504
  have Hq19 : (ta 9 504 (tr p0 1 (some q10) (eX3 q10 (ta 3 0 (tr p0 0 (some q1) (eX0 q1 (ta 0 0 T))))))).1[q19]? = some (9, 504) := by rw [eq19]; exact (ta_new 9 504 (tr p0 1 (some q10) (eX3 q10 (ta 3 0 (tr p0 0 (some q1) (eX0 q1 (ta 0 0 T)))))))
  refine ⟨by rw [m5.1]; exact (app_l (eX3_pre (app_l (eX0_pre (app_l hp))))), ?_⟩
  refine ⟨Or.inl rfl, ?_⟩
  refine ⟨by decide, ?_⟩
  refine ⟨by decide, ?_⟩
  have m6 := m5.nR 6 (some q19) (app_l (eX3_pre (app_l (eX0_pre (app_l hp)))))
  intro q25 hq25
  have eq25 : q25 = (tr p0 6 (some q19) (ta 9 504 (tr p0 1 (some q10) (eX3 q10 (ta 3 0 (tr p0 0 (some q1) (eX0 q1 (ta 0 0 T)))))))).1.length := hq25.trans (congrArg List.length m6.1)
  have m7 := m6.nA 9 15
  have Hq25 : (ta 9 15 (tr p0 6 (some q19) (ta 9 504 (tr p0 1 (some q10) (eX3 q10 (ta 3 0 (tr p0 0 (some q1) (eX0 q1 (ta 0 0 T))))))))).1[q25]? = some (9, 15) := by rw [eq25]; exact (ta_new 9 15 (tr p0 6 (some q19) (ta 9 504 (tr p0 1 (some q10) (eX3 q10 (ta 3 0 (tr p0 0 (some q1) (eX0 q1 (ta 0 0 T)))))))))
  refine ⟨by rw [m7.1]; exact (app_l (app_l (eX3_pre (app_l (eX0_pre (app_l hp)))))), ?_⟩
  refine ⟨Or.inl rfl, ?_⟩
  refine ⟨by decide, ?_⟩
  refine ⟨by decide, ?_⟩
  have m8 := m7.nR 7 (some q25) (app_l (app_l (eX3_pre (app_l (eX0_pre (app_l hp))))))
  intro q31 hq31
  have eq31 : q31 = (tr p0 7 (some q25) (ta 9 15 (tr p0 6 (some q19) (ta 9 504 (tr p0 1 (some q10) (eX3 q10 (ta 3 0 (tr p0 0 (some q1) (eX0 q1 (ta 0 0 T)))))))))).1.length := hq31.trans (congrArg List.length m8.1)
  have m9 := m8.nA 9 14
  have Hq31 : (ta 9 14 (tr p0 7 (some q25) (ta 9 15 (tr p0 6 (some q19) (ta 9 504 (tr p0 1 (some q10) (eX3 q10 (ta 3 0 (tr p0 0 (some q1) (eX0 q1 (ta 0 0 T))))))))))).1[q31]? = some (9, 14) := by rw [eq31]; exact (ta_new 9 14 (tr p0 7 (some q25) (ta 9 15 (tr p0 6 (some q19) (ta 9 504 (tr p0 1 (some q10) (eX3 q10 (ta 3 0 (tr p0 0 (some q1) (eX0 q1 (ta 0 0 T)))))))))))
  refine ⟨by rw [m9.1]; exact (app_l (app_l (app_l (eX3_pre (app_l (eX0_pre (app_l hp))))))), ?_⟩
  refine ⟨Or.inl rfl, ?_⟩
  refine ⟨by decide, ?_⟩
  refine ⟨by decide, ?_⟩
  have m10 := m9.nR 8 (some q31) (app_l (app_l (app_l (eX3_pre (app_l (eX0_pre (app_l hp)))))))
  intro q37 hq37
  have eq37 : q37 = (tr p0 8 (some q31) (ta 9 14 (tr p0 7 (some q25) (ta 9 15 (tr p0 6 (some q19) (ta 9 504 (tr p0 1 (some q10) (eX3 q10 (ta 3 0 (tr p0 0 (some q1) (eX0 q1 (ta 0 0 T)))))))))))).1.length := hq37.trans (congrArg List.length m10.1)
  have m11 := m10.nA 9 14
  have Hq37 : (ta 9 14 (tr p0 8 (some q31) (ta 9 14 (tr p0 7 (some q25) (ta 9 15 (tr p0 6 (some q19) (ta 9 504 (tr p0 1 (some q10) (eX3 q10 (ta 3 0 (tr p0 0 (some q1) (eX0 q1 (ta 0 0 T))))))))))))).1[q37]? = some (9, 14) := by rw [eq37]; exact (ta_new 9 14 (tr p0 8 (some q31) (ta 9 14 (tr p0 7 (some q25) (ta 9 15 (tr p0 6 (some q19) (ta 9 504 (tr p0 1 (some q10) (eX3 q10 (ta 3 0 (tr p0 0 (some q1) (eX0 q1 (ta 0 0 T)))))))))))))
  refine ⟨by rw [m11.1]; exact (app_l (app_l (app_l (app_l (eX3_pre (app_l (eX0_pre (app_l hp)))))))), ?_⟩
  refine ⟨Or.inl rfl, ?_⟩
  refine ⟨by decide, ?_⟩
  refine ⟨by decide, ?_⟩
  have m12 := m11.nR 9 (some q37) (app_l (app_l (app_l (app_l (eX3_pre (app_l (eX0_pre (app_l hp))))))))
  intro q43 hq43
  have eq43 : q43 = (tr p0 9 (some q37) (ta 9 14 (tr p0 8 (some q31) (ta 9 14 (tr p0 7 (some q25) (ta 9 15 (tr p0 6 (some q19) (ta 9 504 (tr p0 1 (some q10) (eX3 q10 (ta 3 0 (tr p0 0 (some q1) (eX0 q1 (ta 0 0 T)))))))))))))).1.length := hq43.trans (congrArg List.length m12.1)
  have m13 := m12.nA 9 14
  have Hq43 : (ta 9 14 (tr p0 9 (some q37) (ta 9 14 (tr p0 8 (some q31) (ta 9 14 (tr p0 7 (some q25) (ta 9 15 (tr p0 6 (some q19) (ta 9 504 (tr p0 1 (some q10) (eX3 q10 (ta 3 0 (tr p0 0 (some q1) (eX0 q1 (ta 0 0 T))))))))))))))).1[q43]? = some (9, 14) := by rw [eq43]; exact (ta_new 9 14 (tr p0 9 (some q37) (ta 9 14 (tr p0 8 (some q31) (ta 9 14 (tr p0 7 (some q25) (ta 9 15 (tr p0 6 (some q19) (ta 9 504 (tr p0 1 (some q10) (eX3 q10 (ta 3 0 (tr p0 0 (some q1) (eX0 q1 (ta 0 0 T)))))))))))))))
  refine ⟨by rw [m13.1]; exact (app_l (app_l (app_l (app_l (app_l (eX3_pre (app_l (eX0_pre (app_l hp))))))))), ?_⟩
  refine ⟨Or.inl rfl, ?_⟩
  refine ⟨by decide, ?_⟩
  refine ⟨by decide, ?_⟩
  have m14 := m13.nR 10 (some q43) (app_l (app_l (app_l (app_l (app_l (eX3_pre (app_l (eX0_pre (app_l hp)))))))))
  intro q49 hq49
  have eq49 : q49 = (tr p0 10 (some q43) (ta 9 14 (tr p0 9 (some q37) (ta 9 14 (tr p0 8 (some q31) (ta 9 14 (tr p0 7 (some q25) (ta 9 15 (tr p0 6 (some q19) (ta 9 504 (tr p0 1 (some q10) (eX3 q10 (ta 3 0 (tr p0 0 (some q1) (eX0 q1 (ta 0 0 T)))))))))))))))).1.length := hq49.trans (congrArg List.length m14.1)
  have m15 := m14.nA 9 14
  have Hq49 : (ta 9 14 (tr p0 10 (some q43) (ta 9 14 (tr p0 9 (some q37) (ta 9 14 (tr p0 8 (some q31) (ta 9 14 (tr p0 7 (some q25) (ta 9 15 (tr p0 6 (some q19) (ta 9 504 (tr p0 1 (some q10) (eX3 q10 (ta 3 0 (tr p0 0 (some q1) (eX0 q1 (ta 0 0 T))))))))))))))))).1[q49]? = some (9, 14) := by rw [eq49]; exact (ta_new 9 14 (tr p0 10 (some q43) (ta 9 14 (tr p0 9 (some q37) (ta 9 14 (tr p0 8 (some q31) (ta 9 14 (tr p0 7 (some q25) (ta 9 15 (tr p0 6 (some q19) (ta 9 504 (tr p0 1 (some q10) (eX3 q10 (ta 3 0 (tr p0 0 (some q1) (eX0 q1 (ta 0 0 T)))))))))))))))))
  refine ⟨by rw [m15.1]; exact (app_l (app_l (app_l (app_l (app_l (app_l (eX3_pre (app_l (eX0_pre (app_l hp)))))))))), ?_⟩
  refine ⟨Or.inl rfl, ?_⟩
  refine ⟨by decide, ?_⟩
  refine ⟨by decide, ?_⟩
  have m16 := m15.nR 11 (some q49) (app_l (app_l (app_l (app_l (app_l (app_l (eX3_pre (app_l (eX0_pre (app_l hp))))))))))
  intro q55 hq55
  have eq55 : q55 = (tr p0 11 (some q49) (ta 9 14 (tr p0 10 (some q43) (ta 9 14 (tr p0 9 (some q37) (ta 9 14 (tr p0 8 (some q31) (ta 9 14 (tr p0 7 (some q25) (ta 9 15 (tr p0 6 (some q19) (ta 9 504 (tr p0 1 (some q10) (eX3 q10 (ta 3 0 (tr p0 0 (some q1) (eX0 q1 (ta 0 0 T)))))))))))))))))).1.length := hq55.trans (congrArg List.length m16.1)
  have m17 := m16.nA 9 15
  have Hq55 : (ta 9 15 (tr p0 11 (some q49) (ta 9 14 (tr p0 10 (some q43) (ta 9 14 (tr p0 9 (some q37) (ta 9 14 (tr p0 8 (some q31) (ta 9 14 (tr p0 7 (some q25) (ta 9 15 (tr p0 6 (some q19) (ta 9 504 (tr p0 1 (some q10) (eX3 q10 (ta 3 0 (tr p0 0 (some q1) (eX0 q1 (ta 0 0 T))))))))))))))))))).1[q55]? = some (9, 15) := by rw [eq55]; exact (ta_new 9 15 (tr p0 11 (some q49) (ta 9 14 (tr p0 10 (some q43) (ta 9 14 (tr p0 9 (some q37) (ta 9 14 (tr p0 8 (some q31) (ta 9 14 (tr p0 7 (some q25) (ta 9 15 (tr p0 6 (some q19) (ta 9 504 (tr p0 1 (some q10) (eX3 q10 (ta 3 0 (tr p0 0 (some q1) (eX0 q1 (ta 0 0 T)))))))))))))))))))
  refine ⟨by rw [m17.1]; exact (app_l (app_l (app_l (app_l (app_l (app_l (app_l (eX3_pre (app_l (eX0_pre (app_l hp))))))))))), ?_⟩
  refine ⟨Or.inl rfl, ?_⟩
  refine ⟨by decide, ?_⟩
  refine ⟨by decide, ?_⟩
  have m18 := m17.nR 15 (some q55) (app_l (app_l (app_l (app_l (app_l (app_l (app_l (eX3_pre (app_l (eX0_pre (app_l hp)))))))))))
  subst eq1
  subst eq10
  subst eq19
  subst eq25
  subst eq31
  subst eq37
  subst eq43
  subst eq49
  subst eq55
  exact hQ _ m18
theorem pX5_init {d p0 : Nat} {Q : zMem → Prop} {T : zTB} {μ : zMem} (hm : isM T μ) (hp : T.1[p0]? = some (5, 0)) (hQ : ∀ μ', isM (eX5 p0 T) μ' → Q μ') : kX5_init S0 (d + 2) p0 μ Q := by
  refine bX5_init ?_
  refine ⟨by decide, ?_⟩
  refine ⟨by decide, ?_⟩
  intro q1 hq1
  have eq1 : q1 = T.1.length := hq1.trans (congrArg List.length hm.1)
  refine ⟨by decide, ?_⟩
  refine ⟨by decide, ?_⟩
  have m1 := hm.nA 1 0
  have Hq1 : (ta 1 0 T).1[q1]? = some (1, 0) := by rw [eq1]; exact (ta_new 1 0 T)
  refine pX1_init m1 Hq1 ?_
  intro μ7 hw7
  refine ⟨by rw [hw7.1]; exact (eX1_pre (app_l hp)), ?_⟩
  refine ⟨Or.inl rfl, ?_⟩
  have m2 := hw7.nR 0 (some q1) (eX1_pre (app_l hp))
  refine ⟨by rw [m2.1]; exact (eX1_pre (app_l hp)), ?_⟩
  refine ⟨by decide, ?_⟩
  refine ⟨by decide, ?_⟩
  have m3 := m2.nI 1 0 (eX1_pre (app_l hp))
  intro q11 hq11
  have eq11 : q11 = (ti p0 1 0 (tr p0 0 (some q1) (eX1 q1 (ta 1 0 T)))).1.length := hq11.trans (congrArg List.length m3.1)
  have m4 := m3.nA 9 42
  have Hq11 : (ta 9 42 (ti p0 1 0 (tr p0 0 (some q1) (eX1 q1 (ta 1 0 T))))).1[q11]? = some (9, 42) := by rw [eq11]; exact (ta_new 9 42 (ti p0 1 0 (tr p0 0 (some q1) (eX1 q1 (ta 1 0 T)))))
  refine ⟨by rw [m4.1]; exact (app_l (eX1_pre (app_l hp))), ?_⟩
  refine ⟨Or.inl rfl, ?_⟩
  refine ⟨by decide, ?_⟩
  refine ⟨by decide, ?_⟩
  have m5 := m4.nR 2 (some q11) (app_l (eX1_pre (app_l hp)))
  intro q17 hq17
  have eq17 : q17 = (tr p0 2 (some q11) (ta 9 42 (ti p0 1 0 (tr p0 0 (some q1) (eX1 q1 (ta 1 0 T)))))).1.length := hq17.trans (congrArg List.length m5.1)
  have m6 := m5.nA 9 8
  have Hq17 : (ta 9 8 (tr p0 2 (some q11) (ta 9 42 (ti p0 1 0 (tr p0 0 (some q1) (eX1 q1 (ta 1 0 T))))))).1[q17]? = some (9, 8) := by rw [eq17]; exact (ta_new 9 8 (tr p0 2 (some q11) (ta 9 42 (ti p0 1 0 (tr p0 0 (some q1) (eX1 q1 (ta 1 0 T)))))))
  refine ⟨by rw [m6.1]; exact (app_l (app_l (eX1_pre (app_l hp)))), ?_⟩
  refine ⟨Or.inl rfl, ?_⟩
  have m7 := m6.nR 3 (some q17) (app_l (app_l (eX1_pre (app_l hp))))
  refine ⟨by rw [m7.1]; exact (app_l (app_l (eX1_pre (app_l hp)))), ?_⟩
  refine ⟨Or.inl rfl, ?_⟩
  have m8 := m7.nR 4 (none) (app_l (app_l (eX1_pre (app_l hp))))
  refine ⟨by rw [m8.1]; exact (app_l (app_l (eX1_pre (app_l hp)))), ?_⟩
  refine ⟨q17, by rw [m8.2.2.2.1]; simp [fl8, ta, ti, tr, lkR], ?_⟩
  refine ⟨by decide, ?_⟩
  refine ⟨by decide, ?_⟩
  refine fill8 m8 Hq17 ?_
  intro μ30 hw30
  refine ⟨by rw [hw30.1]; exact (app_l (app_l (eX1_pre (app_l hp)))), ?_⟩
  refine ⟨q17, by rw [hw30.2.2.2.1]; simp [fl8, ta, ti, tr, lkR], ?_⟩
  refine ⟨zA_of (by rw [hw30.1]; exact Hq17) (by decide) (by decide) (by decide), ?_⟩
  refine ⟨q17, by rw [hw30.2.2.2.1]; simp [fl8, ta, ti, tr, lkR], ?_⟩
  refine ⟨zA_of (by rw [hw30.1]; exact Hq17) (by decide) (by decide) (by decide), ?_⟩
  have m9 := hw30.nI 4 0 Hq17
  have m10 := m9.nI 7 9 Hq17
  subst eq1
  subst eq11
  subst eq17
  exact hQ _ m10
theorem pX8_init {d p0 : Nat} {Q : zMem → Prop} {T : zTB} {μ : zMem} (hm : isM T μ) (hp : T.1[p0]? = some (8, 0)) (hQ : ∀ μ', isM (eX8 p0 T) μ' → Q μ') : kX8_init S0 (d + 1) p0 μ Q := by
  refine bX8_init ?_
  refine ⟨by decide, ?_⟩
  refine ⟨by decide, ?_⟩
  intro q1 hq1
  have eq1 : q1 = T.1.length := hq1.trans (congrArg List.length hm.1)
  have m1 := hm.nA 9 1285
  have Hq1 : (ta 9 1285 T).1[q1]? = some (9, 1285) := by rw [eq1]; exact (ta_new 9 1285 T)
  refine ⟨by rw [m1.1]; exact (app_l hp), ?_⟩
  refine ⟨Or.inl rfl, ?_⟩
  refine ⟨by decide, ?_⟩
  refine ⟨by decide, ?_⟩
  have m2 := m1.nR 0 (some q1) (app_l hp)
  intro q7 hq7
  have eq7 : q7 = (tr p0 0 (some q1) (ta 9 1285 T)).1.length := hq7.trans (congrArg List.length m2.1)
  have m3 := m2.nA 9 1296
  have Hq7 : (ta 9 1296 (tr p0 0 (some q1) (ta 9 1285 T))).1[q7]? = some (9, 1296) := by rw [eq7]; exact (ta_new 9 1296 (tr p0 0 (some q1) (ta 9 1285 T)))
  refine ⟨by rw [m3.1]; exact (app_l (app_l hp)), ?_⟩
  refine ⟨Or.inl rfl, ?_⟩
  refine ⟨by decide, ?_⟩
  refine ⟨by decide, ?_⟩
  have m4 := m3.nR 2 (some q7) (app_l (app_l hp))
  intro q13 hq13
  have eq13 : q13 = (tr p0 2 (some q7) (ta 9 1296 (tr p0 0 (some q1) (ta 9 1285 T)))).1.length := hq13.trans (congrArg List.length m4.1)
  have m5 := m4.nA 9 1296
  have Hq13 : (ta 9 1296 (tr p0 2 (some q7) (ta 9 1296 (tr p0 0 (some q1) (ta 9 1285 T))))).1[q13]? = some (9, 1296) := by rw [eq13]; exact (ta_new 9 1296 (tr p0 2 (some q7) (ta 9 1296 (tr p0 0 (some q1) (ta 9 1285 T)))))
  refine ⟨by rw [m5.1]; exact (app_l (app_l (app_l hp))), ?_⟩
  refine ⟨Or.inl rfl, ?_⟩
  refine ⟨by decide, ?_⟩
  refine ⟨by decide, ?_⟩
  have m6 := m5.nR 3 (some q13) (app_l (app_l (app_l hp)))
  intro q19 hq19
  have eq19 : q19 = (tr p0 3 (some q13) (ta 9 1296 (tr p0 2 (some q7) (ta 9 1296 (tr p0 0 (some q1) (ta 9 1285 T)))))).1.length := hq19.trans (congrArg List.length m6.1)
  have m7 := m6.nA 10 36
  have Hq19 : (ta 10 36 (tr p0 3 (some q13) (ta 9 1296 (tr p0 2 (some q7) (ta 9 1296 (tr p0 0 (some q1) (ta 9 1285 T))))))).1[q19]? = some (10, 36) := by rw [eq19]; exact (ta_new 10 36 (tr p0 3 (some q13) (ta 9 1296 (tr p0 2 (some q7) (ta 9 1296 (tr p0 0 (some q1) (ta 9 1285 T)))))))
  refine ⟨by rw [m7.1]; exact (app_l (app_l (app_l (app_l hp)))), ?_⟩
  refine ⟨Or.inl rfl, ?_⟩
  refine ⟨by decide, ?_⟩
  refine ⟨by decide, ?_⟩
  have m8 := m7.nR 4 (some q19) (app_l (app_l (app_l (app_l hp))))
  intro q25 hq25
  have eq25 : q25 = (tr p0 4 (some q19) (ta 10 36 (tr p0 3 (some q13) (ta 9 1296 (tr p0 2 (some q7) (ta 9 1296 (tr p0 0 (some q1) (ta 9 1285 T)))))))).1.length := hq25.trans (congrArg List.length m8.1)
  have m9 := m8.nA 9 98
  have Hq25 : (ta 9 98 (tr p0 4 (some q19) (ta 10 36 (tr p0 3 (some q13) (ta 9 1296 (tr p0 2 (some q7) (ta 9 1296 (tr p0 0 (some q1) (ta 9 1285 T))))))))).1[q25]? = some (9, 98) := by rw [eq25]; exact (ta_new 9 98 (tr p0 4 (some q19) (ta 10 36 (tr p0 3 (some q13) (ta 9 1296 (tr p0 2 (some q7) (ta 9 1296 (tr p0 0 (some q1) (ta 9 1285 T)))))))))
  refine ⟨by rw [m9.1]; exact (app_l (app_l (app_l (app_l (app_l hp))))), ?_⟩
  refine ⟨Or.inl rfl, ?_⟩
  refine ⟨by decide, ?_⟩
  refine ⟨by decide, ?_⟩
  have m10 := m9.nR 5 (some q25) (app_l (app_l (app_l (app_l (app_l hp)))))
  intro q31 hq31
  have eq31 : q31 = (tr p0 5 (some q25) (ta 9 98 (tr p0 4 (some q19) (ta 10 36 (tr p0 3 (some q13) (ta 9 1296 (tr p0 2 (some q7) (ta 9 1296 (tr p0 0 (some q1) (ta 9 1285 T)))))))))).1.length := hq31.trans (congrArg List.length m10.1)
  have m11 := m10.nA 9 70
  have Hq31 : (ta 9 70 (tr p0 5 (some q25) (ta 9 98 (tr p0 4 (some q19) (ta 10 36 (tr p0 3 (some q13) (ta 9 1296 (tr p0 2 (some q7) (ta 9 1296 (tr p0 0 (some q1) (ta 9 1285 T))))))))))).1[q31]? = some (9, 70) := by rw [eq31]; exact (ta_new 9 70 (tr p0 5 (some q25) (ta 9 98 (tr p0 4 (some q19) (ta 10 36 (tr p0 3 (some q13) (ta 9 1296 (tr p0 2 (some q7) (ta 9 1296 (tr p0 0 (some q1) (ta 9 1285 T)))))))))))
  refine ⟨by rw [m11.1]; exact (app_l (app_l (app_l (app_l (app_l (app_l hp)))))), ?_⟩
  refine ⟨Or.inl rfl, ?_⟩
  refine ⟨by decide, ?_⟩
  refine ⟨by decide, ?_⟩
  have m12 := m11.nR 6 (some q31) (app_l (app_l (app_l (app_l (app_l (app_l hp))))))
  intro q37 hq37
  have eq37 : q37 = (tr p0 6 (some q31) (ta 9 70 (tr p0 5 (some q25) (ta 9 98 (tr p0 4 (some q19) (ta 10 36 (tr p0 3 (some q13) (ta 9 1296 (tr p0 2 (some q7) (ta 9 1296 (tr p0 0 (some q1) (ta 9 1285 T)))))))))))).1.length := hq37.trans (congrArg List.length m12.1)
  have m13 := m12.nA 9 14
  have Hq37 : (ta 9 14 (tr p0 6 (some q31) (ta 9 70 (tr p0 5 (some q25) (ta 9 98 (tr p0 4 (some q19) (ta 10 36 (tr p0 3 (some q13) (ta 9 1296 (tr p0 2 (some q7) (ta 9 1296 (tr p0 0 (some q1) (ta 9 1285 T))))))))))))).1[q37]? = some (9, 14) := by rw [eq37]; exact (ta_new 9 14 (tr p0 6 (some q31) (ta 9 70 (tr p0 5 (some q25) (ta 9 98 (tr p0 4 (some q19) (ta 10 36 (tr p0 3 (some q13) (ta 9 1296 (tr p0 2 (some q7) (ta 9 1296 (tr p0 0 (some q1) (ta 9 1285 T)))))))))))))
  refine ⟨by rw [m13.1]; exact (app_l (app_l (app_l (app_l (app_l (app_l (app_l hp))))))), ?_⟩
  refine ⟨Or.inl rfl, ?_⟩
  refine ⟨by decide, ?_⟩
  refine ⟨by decide, ?_⟩
  have m14 := m13.nR 8 (some q37) (app_l (app_l (app_l (app_l (app_l (app_l (app_l hp)))))))
  intro q43 hq43
  have eq43 : q43 = (tr p0 8 (some q37) (ta 9 14 (tr p0 6 (some q31) (ta 9 70 (tr p0 5 (some q25) (ta 9 98 (tr p0 4 (some q19) (ta 10 36 (tr p0 3 (some q13) (ta 9 1296 (tr p0 2 (some q7) (ta 9 1296 (tr p0 0 (some q1) (ta 9 1285 T)))))))))))))).1.length := hq43.trans (congrArg List.length m14.1)
  have m15 := m14.nA 9 14
  have Hq43 : (ta 9 14 (tr p0 8 (some q37) (ta 9 14 (tr p0 6 (some q31) (ta 9 70 (tr p0 5 (some q25) (ta 9 98 (tr p0 4 (some q19) (ta 10 36 (tr p0 3 (some q13) (ta 9 1296 (tr p0 2 (some q7) (ta 9 1296 (tr p0 0 (some q1) (ta 9 1285 T))))))))))))))).1[q43]? = some (9, 14) := by rw [eq43]; exact (ta_new 9 14 (tr p0 8 (some q37) (ta 9 14 (tr p0 6 (some q31) (ta 9 70 (tr p0 5 (some q25) (ta 9 98 (tr p0 4 (some q19) (ta 10 36 (tr p0 3 (some q13) (ta 9 1296 (tr p0 2 (some q7) (ta 9 1296 (tr p0 0 (some q1) (ta 9 1285 T)))))))))))))))
  refine ⟨by rw [m15.1]; exact (app_l (app_l (app_l (app_l (app_l (app_l (app_l (app_l hp)))))))), ?_⟩
  refine ⟨Or.inl rfl, ?_⟩
  refine ⟨by decide, ?_⟩
  refine ⟨by decide, ?_⟩
  have m16 := m15.nR 9 (some q43) (app_l (app_l (app_l (app_l (app_l (app_l (app_l (app_l hp))))))))
  intro q49 hq49
  have eq49 : q49 = (tr p0 9 (some q43) (ta 9 14 (tr p0 8 (some q37) (ta 9 14 (tr p0 6 (some q31) (ta 9 70 (tr p0 5 (some q25) (ta 9 98 (tr p0 4 (some q19) (ta 10 36 (tr p0 3 (some q13) (ta 9 1296 (tr p0 2 (some q7) (ta 9 1296 (tr p0 0 (some q1) (ta 9 1285 T)))))))))))))))).1.length := hq49.trans (congrArg List.length m16.1)
  have m17 := m16.nA 9 80
  have Hq49 : (ta 9 80 (tr p0 9 (some q43) (ta 9 14 (tr p0 8 (some q37) (ta 9 14 (tr p0 6 (some q31) (ta 9 70 (tr p0 5 (some q25) (ta 9 98 (tr p0 4 (some q19) (ta 10 36 (tr p0 3 (some q13) (ta 9 1296 (tr p0 2 (some q7) (ta 9 1296 (tr p0 0 (some q1) (ta 9 1285 T))))))))))))))))).1[q49]? = some (9, 80) := by rw [eq49]; exact (ta_new 9 80 (tr p0 9 (some q43) (ta 9 14 (tr p0 8 (some q37) (ta 9 14 (tr p0 6 (some q31) (ta 9 70 (tr p0 5 (some q25) (ta 9 98 (tr p0 4 (some q19) (ta 10 36 (tr p0 3 (some q13) (ta 9 1296 (tr p0 2 (some q7) (ta 9 1296 (tr p0 0 (some q1) (ta 9 1285 T)))))))))))))))))
  refine ⟨by rw [m17.1]; exact (app_l (app_l (app_l (app_l (app_l (app_l (app_l (app_l (app_l hp))))))))), ?_⟩
  refine ⟨Or.inl rfl, ?_⟩
  refine ⟨by decide, ?_⟩
  refine ⟨by decide, ?_⟩
  have m18 := m17.nR 14 (some q49) (app_l (app_l (app_l (app_l (app_l (app_l (app_l (app_l (app_l hp)))))))))
  intro q55 hq55
  have eq55 : q55 = (tr p0 14 (some q49) (ta 9 80 (tr p0 9 (some q43) (ta 9 14 (tr p0 8 (some q37) (ta 9 14 (tr p0 6 (some q31) (ta 9 70 (tr p0 5 (some q25) (ta 9 98 (tr p0 4 (some q19) (ta 10 36 (tr p0 3 (some q13) (ta 9 1296 (tr p0 2 (some q7) (ta 9 1296 (tr p0 0 (some q1) (ta 9 1285 T)))))))))))))))))).1.length := hq55.trans (congrArg List.length m18.1)
  have m19 := m18.nA 9 42
  have Hq55 : (ta 9 42 (tr p0 14 (some q49) (ta 9 80 (tr p0 9 (some q43) (ta 9 14 (tr p0 8 (some q37) (ta 9 14 (tr p0 6 (some q31) (ta 9 70 (tr p0 5 (some q25) (ta 9 98 (tr p0 4 (some q19) (ta 10 36 (tr p0 3 (some q13) (ta 9 1296 (tr p0 2 (some q7) (ta 9 1296 (tr p0 0 (some q1) (ta 9 1285 T))))))))))))))))))).1[q55]? = some (9, 42) := by rw [eq55]; exact (ta_new 9 42 (tr p0 14 (some q49) (ta 9 80 (tr p0 9 (some q43) (ta 9 14 (tr p0 8 (some q37) (ta 9 14 (tr p0 6 (some q31) (ta 9 70 (tr p0 5 (some q25) (ta 9 98 (tr p0 4 (some q19) (ta 10 36 (tr p0 3 (some q13) (ta 9 1296 (tr p0 2 (some q7) (ta 9 1296 (tr p0 0 (some q1) (ta 9 1285 T)))))))))))))))))))
  refine ⟨by rw [m19.1]; exact (app_l (app_l (app_l (app_l (app_l (app_l (app_l (app_l (app_l (app_l hp)))))))))), ?_⟩
  refine ⟨Or.inl rfl, ?_⟩
  have m20 := m19.nR 17 (some q55) (app_l (app_l (app_l (app_l (app_l (app_l (app_l (app_l (app_l (app_l hp))))))))))
  refine ⟨by rw [m20.1]; exact (app_l (app_l (app_l (app_l (app_l (app_l (app_l (app_l (app_l (app_l hp)))))))))), ?_⟩
  refine ⟨q1, by rw [m20.2.2.2.1]; simp [fl8, ta, ti, tr, lkR], ?_⟩
  refine ⟨zA_of (by rw [m20.1]; exact (app_l (app_l (app_l (app_l (app_l (app_l (app_l (app_l (app_l Hq1)))))))))) (by decide) (by decide) (by decide), ?_⟩
  refine ⟨q1, by rw [m20.2.2.2.1]; simp [fl8, ta, ti, tr, lkR], ?_⟩
  refine ⟨zA_of (by rw [m20.1]; exact (app_l (app_l (app_l (app_l (app_l (app_l (app_l (app_l (app_l Hq1)))))))))) (by decide) (by decide) (by decide), ?_⟩
  refine ⟨q1, by rw [m20.2.2.2.1]; simp [fl8, ta, ti, tr, lkR], ?_⟩
  refine ⟨zA_of (by rw [m20.1]; exact (app_l (app_l (app_l (app_l (app_l (app_l (app_l (app_l (app_l Hq1)))))))))) (by decide) (by decide) (by decide), ?_⟩
  refine ⟨q1, by rw [m20.2.2.2.1]; simp [fl8, ta, ti, tr, lkR], ?_⟩
  refine ⟨zA_of (by rw [m20.1]; exact (app_l (app_l (app_l (app_l (app_l (app_l (app_l (app_l (app_l Hq1)))))))))) (by decide) (by decide) (by decide), ?_⟩
  refine ⟨q1, by rw [m20.2.2.2.1]; simp [fl8, ta, ti, tr, lkR], ?_⟩
  refine ⟨zA_of (by rw [m20.1]; exact (app_l (app_l (app_l (app_l (app_l (app_l (app_l (app_l (app_l Hq1)))))))))) (by decide) (by decide) (by decide), ?_⟩
  refine ⟨q1, by rw [m20.2.2.2.1]; simp [fl8, ta, ti, tr, lkR], ?_⟩
  refine ⟨zA_of (by rw [m20.1]; exact (app_l (app_l (app_l (app_l (app_l (app_l (app_l (app_l (app_l Hq1)))))))))) (by decide) (by decide) (by decide), ?_⟩
  refine ⟨q1, by rw [m20.2.2.2.1]; simp [fl8, ta, ti, tr, lkR], ?_⟩
  refine ⟨zA_of (by rw [m20.1]; exact (app_l (app_l (app_l (app_l (app_l (app_l (app_l (app_l (app_l Hq1)))))))))) (by decide) (by decide) (by decide), ?_⟩
  refine ⟨by decide, ?_⟩
  refine ⟨by decide, ?_⟩
  have m21 := m20.nI 74 1 (app_l (app_l (app_l (app_l (app_l (app_l (app_l (app_l (app_l Hq1)))))))))
  have m22 := m21.nI 75 1 (app_l (app_l (app_l (app_l (app_l (app_l (app_l (app_l (app_l Hq1)))))))))
  have m23 := m22.nI 76 1 (app_l (app_l (app_l (app_l (app_l (app_l (app_l (app_l (app_l Hq1)))))))))
  have m24 := m23.nI 77 1 (app_l (app_l (app_l (app_l (app_l (app_l (app_l (app_l (app_l Hq1)))))))))
  have m25 := m24.nI 79 1 (app_l (app_l (app_l (app_l (app_l (app_l (app_l (app_l (app_l Hq1)))))))))
  have m26 := m25.nI 80 1 (app_l (app_l (app_l (app_l (app_l (app_l (app_l (app_l (app_l Hq1)))))))))
  have m27 := m26.nI 81 9 (app_l (app_l (app_l (app_l (app_l (app_l (app_l (app_l (app_l Hq1)))))))))
  subst eq1
  subst eq7
  subst eq13
  subst eq19
  subst eq25
  subst eq31
  subst eq37
  subst eq43
  subst eq49
  subst eq55
  exact hQ _ m27
theorem pX7_init {d p0 : Nat} {Q : zMem → Prop} {T : zTB} {μ : zMem} (hm : isM T μ) (hp : T.1[p0]? = some (7, 0)) (hQ : ∀ μ', isM (eX7a p0 T) μ' → zX7_init_65 S0 (d + 2) Q p0 0 μ' 29 3949) : kX7_init S0 (d + 3) p0 μ Q := by
  refine bX7_init ?_
  refine ⟨by decide, ?_⟩
  refine ⟨by decide, ?_⟩
  intro q1 hq1
  have eq1 : q1 = T.1.length := hq1.trans (congrArg List.length hm.1)
  refine ⟨by decide, ?_⟩
  refine ⟨by decide, ?_⟩
  have m1 := hm.nA 5 0
  have Hq1 : (ta 5 0 T).1[q1]? = some (5, 0) := by rw [eq1]; exact (ta_new 5 0 T)
  refine pX5_init m1 Hq1 ?_
  intro μ7 hw7
  refine ⟨by rw [hw7.1]; exact (eX5_pre (app_l hp)), ?_⟩
  refine ⟨Or.inl rfl, ?_⟩
  refine ⟨by decide, ?_⟩
  refine ⟨by decide, ?_⟩
  have m2 := hw7.nR 0 (some q1) (eX5_pre (app_l hp))
  intro q10 hq10
  have eq10 : q10 = (tr p0 0 (some q1) (eX5 q1 (ta 5 0 T))).1.length := hq10.trans (congrArg List.length m2.1)
  have m3 := m2.nA 11 4
  have Hq10 : (ta 11 4 (tr p0 0 (some q1) (eX5 q1 (ta 5 0 T)))).1[q10]? = some (11, 4) := by rw [eq10]; exact (ta_new 11 4 (tr p0 0 (some q1) (eX5 q1 (ta 5 0 T))))
  refine ⟨by rw [m3.1]; exact (app_l (eX5_pre (app_l hp))), ?_⟩
  refine ⟨Or.inl rfl, ?_⟩
  have m4 := m3.nR 1 (some q10) (app_l (eX5_pre (app_l hp)))
  refine ⟨by rw [m4.1]; exact (app_l (eX5_pre (app_l hp))), ?_⟩
  refine ⟨by decide, ?_⟩
  refine ⟨by decide, ?_⟩
  have m5 := m4.nI 2 0 (app_l (eX5_pre (app_l hp)))
  intro q17 hq17
  have eq17 : q17 = (ti p0 2 0 (tr p0 1 (some q10) (ta 11 4 (tr p0 0 (some q1) (eX5 q1 (ta 5 0 T)))))).1.length := hq17.trans (congrArg List.length m5.1)
  have m6 := m5.nA 9 80
  have Hq17 : (ta 9 80 (ti p0 2 0 (tr p0 1 (some q10) (ta 11 4 (tr p0 0 (some q1) (eX5 q1 (ta 5 0 T))))))).1[q17]? = some (9, 80) := by rw [eq17]; exact (ta_new 9 80 (ti p0 2 0 (tr p0 1 (some q10) (ta 11 4 (tr p0 0 (some q1) (eX5 q1 (ta 5 0 T)))))))
  refine ⟨by rw [m6.1]; exact (app_l (app_l (eX5_pre (app_l hp)))), ?_⟩
  refine ⟨Or.inl rfl, ?_⟩
  have m7 := m6.nR 3 (some q17) (app_l (app_l (eX5_pre (app_l hp))))
  refine ⟨by rw [m7.1]; exact (app_l (app_l (eX5_pre (app_l hp)))), ?_⟩
  refine ⟨by decide, ?_⟩
  refine ⟨by decide, ?_⟩
  have m8 := m7.nI 4 0 (app_l (app_l (eX5_pre (app_l hp))))
  intro q24 hq24
  have eq24 : q24 = (ti p0 4 0 (tr p0 3 (some q17) (ta 9 80 (ti p0 2 0 (tr p0 1 (some q10) (ta 11 4 (tr p0 0 (some q1) (eX5 q1 (ta 5 0 T))))))))).1.length := hq24.trans (congrArg List.length m8.1)
  refine ⟨by decide, ?_⟩
  refine ⟨by decide, ?_⟩
  have m9 := m8.nA 6 0
  have Hq24 : (ta 6 0 (ti p0 4 0 (tr p0 3 (some q17) (ta 9 80 (ti p0 2 0 (tr p0 1 (some q10) (ta 11 4 (tr p0 0 (some q1) (eX5 q1 (ta 5 0 T)))))))))).1[q24]? = some (6, 0) := by rw [eq24]; exact (ta_new 6 0 (ti p0 4 0 (tr p0 3 (some q17) (ta 9 80 (ti p0 2 0 (tr p0 1 (some q10) (ta 11 4 (tr p0 0 (some q1) (eX5 q1 (ta 5 0 T))))))))))
  refine pX6_init m9 Hq24 ?_
  intro μ30 hw30
  refine ⟨by rw [hw30.1]; exact (eX6_pre (app_l (app_l (app_l (eX5_pre (app_l hp)))))), ?_⟩
  refine ⟨Or.inl rfl, ?_⟩
  refine ⟨by decide, ?_⟩
  refine ⟨by decide, ?_⟩
  have m10 := hw30.nR 5 (some q24) (eX6_pre (app_l (app_l (app_l (eX5_pre (app_l hp))))))
  intro q33 hq33
  have eq33 : q33 = (tr p0 5 (some q24) (eX6 q24 (ta 6 0 (ti p0 4 0 (tr p0 3 (some q17) (ta 9 80 (ti p0 2 0 (tr p0 1 (some q10) (ta 11 4 (tr p0 0 (some q1) (eX5 q1 (ta 5 0 T)))))))))))).1.length := hq33.trans (congrArg List.length m10.1)
  refine ⟨by decide, ?_⟩
  refine ⟨by decide, ?_⟩
  have m11 := m10.nA 4 0
  have Hq33 : (ta 4 0 (tr p0 5 (some q24) (eX6 q24 (ta 6 0 (ti p0 4 0 (tr p0 3 (some q17) (ta 9 80 (ti p0 2 0 (tr p0 1 (some q10) (ta 11 4 (tr p0 0 (some q1) (eX5 q1 (ta 5 0 T))))))))))))).1[q33]? = some (4, 0) := by rw [eq33]; exact (ta_new 4 0 (tr p0 5 (some q24) (eX6 q24 (ta 6 0 (ti p0 4 0 (tr p0 3 (some q17) (ta 9 80 (ti p0 2 0 (tr p0 1 (some q10) (ta 11 4 (tr p0 0 (some q1) (eX5 q1 (ta 5 0 T)))))))))))))
  refine pX4_init m11 Hq33 ?_
  intro μ39 hw39
  refine ⟨by rw [hw39.1]; exact (eX4_pre (app_l (eX6_pre (app_l (app_l (app_l (eX5_pre (app_l hp)))))))), ?_⟩
  refine ⟨Or.inl rfl, ?_⟩
  have m12 := hw39.nR 6 (some q33) (eX4_pre (app_l (eX6_pre (app_l (app_l (app_l (eX5_pre (app_l hp))))))))
  subst eq1
  subst eq10
  subst eq17
  subst eq24
  subst eq33
  exact hQ _ m12
