/-! layouts: sizes, lines, chains, and the list of what is allowed, in its order -/
def sz (s : Int → Int) (b k : Int) : Int := b + (s (32 + 3 * k + 1) - 1) * s 74
def wd (s : Int → Int) (b k : Int) : Int := s (32 + 3 * k + 0) * sz s b k
def gp (s : Int → Int) (b k : Int) : Int := if sz s b k < sz s b (k - 1) then sz s b k else sz s b (k - 1)
def LW (s : Int → Int) (b first : Int) : Nat → Int
  | 0 => 0
  | j + 1 => LW s b first j + (wd s b (first + j) + (if j = 0 then 0 else gp s b (first + j)))
def LH (s : Int → Int) (b first : Int) : Nat → Int
  | 0 => 0
  | j + 1 => if sz s b (first + j) ≤ LH s b first j then LH s b first j else sz s b (first + j)
theorem sz_bd {s : Int → Int} {b k : Int} (hw : wf s) (b0 : 1 ≤ b) (b1 : b ≤ 12) (k0 : 0 ≤ k) (k1 : k < s 31) : 1 ≤ sz s b k ∧ sz s b k ≤ 20 := by
  have h1 := hw.2.2.2.1 k k0 k1
  have h2 := hw.2.2.2.2.1
  have := imul_bd (a := s (32 + 3 * k + 1) - 1) (b := s 74) (A := 2) (B := 4) (by omega) (by omega) (by omega) (by omega)
  unfold sz
  omega
theorem wd_bd {s : Int → Int} {b k : Int} (hw : wf s) (b0 : 1 ≤ b) (b1 : b ≤ 12) (k0 : 0 ≤ k) (k1 : k < s 31) : 1 ≤ wd s b k ∧ wd s b k ≤ 240 := by
  have h1 := hw.2.2.2.1 k k0 k1
  have h2 := sz_bd hw b0 b1 k0 k1
  have := imul_bd (a := s (32 + 3 * k + 0)) (b := sz s b k) (A := 12) (B := 20) (by omega) (by omega) (by omega) (by omega)
  have h3 : 1 * 1 ≤ s (32 + 3 * k + 0) * sz s b k := Int.mul_le_mul (by omega) (by omega) (by omega) (by omega)
  unfold wd
  omega
theorem gp_bd {s : Int → Int} {b k : Int} (hw : wf s) (b0 : 1 ≤ b) (b1 : b ≤ 12) (k0 : 1 ≤ k) (k1 : k < s 31) : 1 ≤ gp s b k ∧ gp s b k ≤ 20 := by
  have h1 := sz_bd hw b0 b1 (show 0 ≤ k by omega) k1
  have h2 := sz_bd hw b0 b1 (show 0 ≤ k - 1 by omega) (by omega)
  unfold gp
  split <;> omega
theorem LW_bd {s : Int → Int} {b first : Int} (hw : wf s) (b0 : 1 ≤ b) (b1 : b ≤ 12) (f0 : 0 ≤ first) : ∀ j : Nat, first + j ≤ s 31 → (j : Int) ≤ LW s b first j ∧ LW s b first j ≤ 260 * j
  | 0, _ => by simp [LW]
  | j + 1, h => by
    have ih := LW_bd hw b0 b1 f0 j (by omega)
    have h1 := wd_bd hw b0 b1 (show 0 ≤ first + (j : Int) by omega) (by omega)
    unfold LW
    by_cases e : j = 0
    · subst e
      simp only [if_true]
      omega
    · have h2 := gp_bd hw b0 b1 (show 1 ≤ first + (j : Int) by omega) (by omega)
      rw [if_neg e]
      omega
theorem LH_bd {s : Int → Int} {b first : Int} (hw : wf s) (b0 : 1 ≤ b) (b1 : b ≤ 12) (f0 : 0 ≤ first) : ∀ j : Nat, first + j ≤ s 31 → 0 ≤ LH s b first j ∧ LH s b first j ≤ 20 ∧ (0 < j → 1 ≤ LH s b first j)
  | 0, _ => by simp [LH]
  | j + 1, h => by
    have ih := LH_bd hw b0 b1 f0 j (by omega)
    have h1 := sz_bd hw b0 b1 (show 0 ≤ first + (j : Int) by omega) (by omega)
    unfold LH
    split <;> omega
theorem LW_mono {s : Int → Int} {b first : Int} (hw : wf s) (b0 : 1 ≤ b) (b1 : b ≤ 12) (f0 : 0 ≤ first) : ∀ (j k : Nat), j ≤ k → first + k ≤ s 31 → LW s b first j ≤ LW s b first k
  | j, 0, h, _ => by
    have : j = 0 := by omega
    subst this
    exact Int.le_refl _
  | j, k + 1, h, hk => by
    by_cases e : j = k + 1
    · subst e
      exact Int.le_refl _
    · have ih := LW_mono hw b0 b1 f0 j k (by omega) (by omega)
      have h1 := wd_bd hw b0 b1 (show 0 ≤ first + (k : Int) by omega) (by omega)
      rw [show LW s b first (k + 1) = LW s b first k + (wd s b (first + k) + (if k = 0 then 0 else gp s b (first + k))) from rfl]
      by_cases e2 : k = 0
      · rw [if_pos e2]
        omega
      · have h2 := gp_bd hw b0 b1 (show 1 ≤ first + (k : Int) by omega) (by omega)
        rw [if_neg e2]
        omega
theorem LH_mono {s : Int → Int} {b first : Int} : ∀ (j k : Nat), j ≤ k → LH s b first j ≤ LH s b first k
  | j, 0, h => by
    have : j = 0 := by omega
    subst this
    exact Int.le_refl _
  | j, k + 1, h => by
    by_cases e : j = k + 1
    · subst e
      exact Int.le_refl _
    · have ih := LH_mono (s := s) (b := b) (first := first) j k (by omega)
      rw [show LH s b first (k + 1) = if sz s b (first + k) ≤ LH s b first k then LH s b first k else sz s b (first + k) from rfl]
      split <;> omega
/-- a line's height, width and slack: its words are first .. k - 1 -/
def lH (s : Int → Int) (b first k : Int) : Int := LH s b first (k - first).toNat
def lW (s : Int → Int) (b first k : Int) : Int := LW s b first (k - first).toNat
def lS (s : Int → Int) (b first k row : Int) : Int := SL s row (lH s b first k) - lW s b first k
def fit (s : Int → Int) (b first k row : Int) : Prop := row + lH s b first k ≤ 36 ∧ 0 ≤ lS s b first k row
/-- where a line's words begin -/
def ind (s : Int → Int) (sl : Int) : Int := if s 80 = 0 then 0 else if s 80 = 1 then sl / 2 else sl
def COL (s : Int → Int) (b first st : Int) : Nat → Int
  | 0 => st
  | j + 1 => COL s b first st j + wd s b (first + j) + gp s b (first + j + 1)
def lC (s : Int → Int) (b first k row : Int) (C : Int → Int) : Int → Int := fun i => if first ≤ i then COL s b first (SF s row (lH s b first k) + ind s (lS s b first k row)) (i - first).toNat else C i
/-- the longest of the chains, with lengths U, at the gaps before the words lo + 1 .. lo + n that touch the gap before the word w -/
def mx (s : Int → Int) (b : Int) (C U : Int → Int) (lo w : Int) : Nat → Int
  | 0 => 0
  | j + 1 => if C (lo + j) + wd s b (lo + j) < C w ∧ C (w - 1) + wd s b (w - 1) < C (lo + 1 + j) ∧ mx s b C U lo w j < U (lo + 1 + j) then U (lo + 1 + j) else mx s b C U lo w j
def lU (s : Int → Int) (b : Int) (C U : Int → Int) (pf first : Int) : Int → Int := fun i => if first < i then 1 + mx s b C U pf i (first - pf - 1).toNat else if i = first then 0 else U i
def Lg (U : Int → Int) (first : Int) : Nat → Int
  | 0 => 0
  | j + 1 => if Lg U first j < U (first + 1 + j) then U (first + 1 + j) else Lg U first j
def okL (s : Int → Int) (b first k row pf : Int) (C U : Int → Int) : Bool := decide (row + lH s b first k ≤ 36 ∧ 0 ≤ lS s b first k row ∧ Lg (lU s b (lC s b first k row C) U pf first) first (k - first - 1).toNat ≤ s 81)
theorem okL_iff {s : Int → Int} {b first k row pf : Int} {C U : Int → Int} : okL s b first k row pf C U = true ↔ fit s b first k row ∧ Lg (lU s b (lC s b first k row C) U pf first) first (k - first - 1).toNat ≤ s 81 := by
  unfold okL fit
  rw [decide_eq_true_eq, and_assoc]
/-- the ways to go on, in their order, r words from the last being undecided yet: cost, and where lines end -/
def comp (s : Int → Int) (b : Int) : Nat → Int → Int → Int → (Int → Int) → (Int → Int) → List (Int × List Int)
  | 0, first, row, pf, C, U => if okL s b first (s 31) row pf C U = true then [(lS s b first (s 31) row * lS s b first (s 31) row, [s 31])] else []
  | r + 1, first, row, pf, C, U => (if okL s b first (s 31 - (r + 1)) row pf C U = true then (comp s b r (s 31 - (r + 1)) (row + (lH s b first (s 31 - (r + 1)) + s 79)) first (lC s b first (s 31 - (r + 1)) row C) (lU s b (lC s b first (s 31 - (r + 1)) row C) U pf first)).map (fun e => (lS s b first (s 31 - (r + 1)) row * lS s b first (s 31 - (r + 1)) row + e.1, (s 31 - (r + 1)) :: e.2)) else []) ++
      (if s (32 + 3 * (s 31 - (r + 1)) + 2) = 0 then comp s b r first row pf C U else [])
/-! the same along a code: bit r tells whether a line ends before the word that r words follow -/
def evc (s : Int → Int) (b : Int) (c : Nat) : Nat → Int → Int → Int → (Int → Int) → (Int → Int) → Option (Int × List Int)
  | 0, first, row, pf, C, U => if okL s b first (s 31) row pf C U = true then some (lS s b first (s 31) row * lS s b first (s 31) row, [s 31]) else none
  | r + 1, first, row, pf, C, U => if c.testBit r = true then (if okL s b first (s 31 - (r + 1)) row pf C U = true then (evc s b c r (s 31 - (r + 1)) (row + (lH s b first (s 31 - (r + 1)) + s 79)) first (lC s b first (s 31 - (r + 1)) row C) (lU s b (lC s b first (s 31 - (r + 1)) row C) U pf first)).map (fun e => (lS s b first (s 31 - (r + 1)) row * lS s b first (s 31 - (r + 1)) row + e.1, (s 31 - (r + 1)) :: e.2)) else none) else
      (if s (32 + 3 * (s 31 - (r + 1)) + 2) = 0 then evc s b c r first row pf C U else none)
theorem evc_s (s : Int → Int) (b : Int) (c r : Nat) (first row pf : Int) (C U : Int → Int) : evc s b c (r + 1) first row pf C U = if c.testBit r = true then (if okL s b first (s 31 - (r + 1)) row pf C U = true then (evc s b c r (s 31 - (r + 1)) (row + (lH s b first (s 31 - (r + 1)) + s 79)) first (lC s b first (s 31 - (r + 1)) row C) (lU s b (lC s b first (s 31 - (r + 1)) row C) U pf first)).map (fun e => (lS s b first (s 31 - (r + 1)) row * lS s b first (s 31 - (r + 1)) row + e.1, (s 31 - (r + 1)) :: e.2)) else none) else
      (if s (32 + 3 * (s 31 - (r + 1)) + 2) = 0 then evc s b c r first row pf C U else none) := rfl
theorem evc_congr {s : Int → Int} {b : Int} {c c' : Nat} : ∀ (r : Nat) (first row pf : Int) (C U : Int → Int), (∀ i, i < r → c.testBit i = c'.testBit i) → evc s b c r first row pf C U = evc s b c' r first row pf C U
  | 0, first, row, pf, C, U, h => rfl
  | r + 1, first, row, pf, C, U, h => by
    unfold evc
    rw [h r (by omega), evc_congr r _ _ _ _ _ (fun i hi => h i (by omega)), evc_congr r first row pf C U (fun i hi => h i (by omega))]
/-- n - 1, .., 0 -/
def dn : Nat → List Nat
  | 0 => []
  | n + 1 => n :: dn n
theorem dn_add (m : Nat) : ∀ n : Nat, dn (m + n) = (dn n).map (m + ·) ++ dn m
  | 0 => by simp [dn]
  | n + 1 => by
    rw [show m + (n + 1) = (m + n) + 1 from rfl]
    simp only [dn, List.map_cons, List.cons_append]
    rw [dn_add m n]
theorem dn_lt {n x : Nat} : x ∈ dn n → x < n := by
  induction n with
  | zero => intro h; simp [dn] at h
  | succ n ih =>
    intro h
    simp only [dn, List.mem_cons] at h
    rcases h with h | h
    · omega
    · have := ih h
      omega
theorem filterMap_map_some {α β γ : Type} (f : α → Option β) (g : β → γ) (l : List α) : l.filterMap (fun x => (f x).map g) = (l.filterMap f).map g := by
  induction l with
  | nil => rfl
  | cons x l ih =>
    simp only [List.filterMap_cons]
    cases f x <;> simp [ih]
theorem filterMap_none {α β : Type} (f : α → Option β) (l : List α) (h : ∀ x ∈ l, f x = none) : l.filterMap f = [] := by
  induction l with
  | nil => rfl
  | cons x l ih =>
    simp only [List.filterMap_cons]
    rw [h x List.mem_cons_self]
    exact ih (fun y hy => h y (List.mem_cons_of_mem _ hy))
theorem filterMap_ext {α β : Type} {f g : α → Option β} (l : List α) (h : ∀ x ∈ l, f x = g x) : l.filterMap f = l.filterMap g := by
  induction l with
  | nil => rfl
  | cons x l ih =>
    simp only [List.filterMap_cons]
    rw [h x List.mem_cons_self, ih (fun y hy => h y (List.mem_cons_of_mem _ hy))]
/-- the list is what the codes give, from the greatest down -/
theorem comp_codes (s : Int → Int) (b : Int) : ∀ (r : Nat) (first row pf : Int) (C U : Int → Int), comp s b r first row pf C U = (dn (2 ^ r)).filterMap (fun c => evc s b c r first row pf C U)
  | 0, first, row, pf, C, U => by
    show _ = (dn 1).filterMap _
    simp only [dn, List.filterMap_cons, List.filterMap_nil]
    unfold comp evc
    by_cases h : okL s b first (s 31) row pf C U = true <;> simp [h]
  | r + 1, first, row, pf, C, U => by
    rw [show 2 ^ (r + 1) = 2 ^ r + 2 ^ r by omega, dn_add, List.filterMap_append, List.filterMap_map]
    have e1 : ∀ c ∈ dn (2 ^ r), ((fun c => evc s b c (r + 1) first row pf C U) ∘ (2 ^ r + ·)) c = if okL s b first (s 31 - (r + 1)) row pf C U = true then (evc s b c r (s 31 - (r + 1)) (row + (lH s b first (s 31 - (r + 1)) + s 79)) first (lC s b first (s 31 - (r + 1)) row C) (lU s b (lC s b first (s 31 - (r + 1)) row C) U pf first)).map (fun e => (lS s b first (s 31 - (r + 1)) row * lS s b first (s 31 - (r + 1)) row + e.1, (s 31 - (r + 1)) :: e.2)) else none := by
      intro c hc
      have hlt := dn_lt hc
      show evc s b (2 ^ r + c) (r + 1) first row pf C U = _
      have hb : (2 ^ r + c).testBit r = true := by
        rw [Nat.testBit_two_pow_add_eq, Nat.testBit_lt_two_pow hlt]
        rfl
      have hc2 : ∀ i, i < r → (2 ^ r + c).testBit i = c.testBit i := fun i hi => by
        rw [Nat.testBit_two_pow_add_gt hi]
      rw [evc_s, hb]
      simp only [if_true]
      rw [evc_congr r _ _ _ _ _ hc2]
    have e2 : ∀ c ∈ dn (2 ^ r), evc s b c (r + 1) first row pf C U = if s (32 + 3 * (s 31 - (r + 1)) + 2) = 0 then evc s b c r first row pf C U else none := by
      intro c hc
      have hlt := dn_lt hc
      have hb : c.testBit r = false := Nat.testBit_lt_two_pow hlt
      rw [show evc s b c (r + 1) first row pf C U = if c.testBit r = true then _ else (if s (32 + 3 * (s 31 - (r + 1)) + 2) = 0 then evc s b c r first row pf C U else none) from rfl, hb]
      simp
    rw [filterMap_ext _ e1, filterMap_ext _ e2]
    unfold comp
    congr 1
    · by_cases h : okL s b first (s 31 - (r + 1)) row pf C U = true
      · simp only [h, if_true]
        rw [filterMap_map_some, ← comp_codes s b r]
      · simp only [h, if_false]
        exact (filterMap_none _ _ (fun _ _ => rfl)).symm
    · by_cases h : s (32 + 3 * (s 31 - (r + 1)) + 2) = 0
      · simp only [h, if_true]
        exact comp_codes s b r first row pf C U
      · simp only [h, if_false]
        exact (filterMap_none _ _ (fun _ _ => rfl)).symm
