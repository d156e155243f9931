/-! memory, numbers, bits -/
theorem gI_sI (μ : zMem) (p : Nat) (i v : Int) (q : Nat) (j : Int) : gI (sI μ p i v) q j = if q = p ∧ j = i then v else gI μ q j := rfl
theorem gI_sIn {μ : zMem} {p q : Nat} {i v : Int} (h : q ≠ p) : gI (sI μ p i v) q = gI μ q := zu_ne h
theorem gI_sIs {μ : zMem} {p : Nat} {i v : Int} : gI (sI μ p i v) p i = v := zu_self
theorem gI_sIo {μ : zMem} {p : Nat} {i j v : Int} (h : j ≠ i) : gI (sI μ p i v) p j = gI μ p j := zu_off h
theorem gL_sI (μ : zMem) (p : Nat) (i v : Int) : gL (sI μ p i v) = gL μ := rfl
theorem gR_sI (μ : zMem) (p : Nat) (i v : Int) : gR (sI μ p i v) = gR μ := rfl
theorem gD_sI (μ : zMem) (p : Nat) (i v : Int) : gD (sI μ p i v) = gD μ := rfl
theorem gI_sL (μ : zMem) (p : Nat) (i : Int) (v : Int64) : gI (sL μ p i v) = gI μ := rfl
theorem gR_sL (μ : zMem) (p : Nat) (i : Int) (v : Int64) : gR (sL μ p i v) = gR μ := rfl
theorem gD_sL (μ : zMem) (p : Nat) (i : Int) (v : Int64) : gD (sL μ p i v) = gD μ := rfl
theorem gL_sL (μ : zMem) (p : Nat) (i : Int) (v : Int64) (q : Nat) (j : Int) : gL (sL μ p i v) q j = if q = p ∧ j = i then v else gL μ q j := rfl
theorem gL_sLn {μ : zMem} {p q : Nat} {i : Int} {v : Int64} (h : q ≠ p) : gL (sL μ p i v) q = gL μ q := zu_ne h
theorem gI_sR (μ : zMem) (p : Nat) (i : Int) (v : Option Nat) : gI (sR μ p i v) = gI μ := rfl
theorem gL_sR (μ : zMem) (p : Nat) (i : Int) (v : Option Nat) : gL (sR μ p i v) = gL μ := rfl
theorem gD_sR (μ : zMem) (p : Nat) (i : Int) (v : Option Nat) : gD (sR μ p i v) = gD μ := rfl
theorem gR_sR (μ : zMem) (p : Nat) (i : Int) (v : Option Nat) (q : Nat) (j : Int) : gR (sR μ p i v) q j = if q = p ∧ j = i then v else gR μ q j := rfl
theorem gI_cI (μ : zMem) (p : Nat) (i : Int) (q : Nat) (j n : Int) (r : Nat) (x : Int) : gI (cI μ p i q j n) r x = if r = q then (if j ≤ x ∧ x < j + n then gI μ p (i + (x - j)) else gI μ q x) else gI μ r x := by
  show zf _ _ _ _ _ = _
  unfold zf
  by_cases h : r = q
  · rw [if_pos h, if_pos h]
    rfl
  · rw [if_neg h, if_neg h]
    rfl
theorem gI_cIn {μ : zMem} {p : Nat} {i : Int} {q : Nat} {j n : Int} {r : Nat} (h : r ≠ q) : gI (cI μ p i q j n) r = gI μ r := by
  funext x
  rw [gI_cI, if_neg h]
theorem gL_cI (μ : zMem) (p : Nat) (i : Int) (q : Nat) (j n : Int) : gL (cI μ p i q j n) = gL μ := rfl
theorem gR_cI (μ : zMem) (p : Nat) (i : Int) (q : Nat) (j n : Int) : gR (cI μ p i q j n) = gR μ := rfl
theorem gD_cI (μ : zMem) (p : Nat) (i : Int) (q : Nat) (j n : Int) : gD (cI μ p i q j n) = gD μ := rfl
theorem gI_cL (μ : zMem) (p : Nat) (i : Int) (q : Nat) (j n : Int) : gI (cL μ p i q j n) = gI μ := rfl
theorem gR_cL (μ : zMem) (p : Nat) (i : Int) (q : Nat) (j n : Int) : gR (cL μ p i q j n) = gR μ := rfl
theorem gD_cL (μ : zMem) (p : Nat) (i : Int) (q : Nat) (j n : Int) : gD (cL μ p i q j n) = gD μ := rfl
theorem gL_cL (μ : zMem) (p : Nat) (i : Int) (q : Nat) (j n : Int) (r : Nat) (x : Int) : gL (cL μ p i q j n) r x = if r = q then (if j ≤ x ∧ x < j + n then gL μ p (i + (x - j)) else gL μ q x) else gL μ r x := by
  show zf _ _ _ _ _ = _
  unfold zf
  by_cases h : r = q
  · rw [if_pos h, if_pos h]
    rfl
  · rw [if_neg h, if_neg h]
    rfl
theorem gL_cLn {μ : zMem} {p : Nat} {i : Int} {q : Nat} {j n : Int} {r : Nat} (h : r ≠ q) : gL (cL μ p i q j n) r = gL μ r := by
  funext x
  rw [gL_cL, if_neg h]
theorem zi (z : Int) (h : -2147483648 ≤ z ∧ z < 2147483648 := by omega) : zIn z := h
theorem imul_bd {a b A B : Int} (ha : 0 ≤ a) (hA : a ≤ A) (hb : 0 ≤ b) (hB : b ≤ B) : 0 ≤ a * b ∧ a * b ≤ A * B := ⟨Int.mul_nonneg ha hb, Int.mul_le_mul hA hB hb (by omega)⟩
/-- a truth as a number -/
def b2 (p : Prop) [Decidable p] : Int := if p then 1 else 0
theorem b2_0 {p : Prop} [Decidable p] : b2 p = 0 ↔ ¬ p := by
  unfold b2
  by_cases h : p <;> simp [h]
theorem b2_1 {p : Prop} [Decidable p] : b2 p = 1 ↔ p := by
  unfold b2
  by_cases h : p <;> simp [h]
theorem b2_01 (p : Prop) [Decidable p] : b2 p = 0 ∨ b2 p = 1 := by
  unfold b2
  by_cases h : p <;> simp [h]
theorem b2_in (p : Prop) [Decidable p] : zIn (b2 p) := by
  rcases b2_01 p with h | h <;> rw [h] <;> exact z_lit rfl
theorem b2_ite (p : Prop) [Decidable p] : (if b2 p = 0 then (0 : Int) else 1) = b2 p := by
  rcases b2_01 p with h | h <;> rw [h] <;> rfl
theorem b2_eq {p q : Prop} [Decidable p] [Decidable q] (h : p ↔ q) : b2 p = b2 q := by
  unfold b2
  by_cases hp : p
  · rw [if_pos hp, if_pos (h.mp hp)]
  · rw [if_neg hp, if_neg (fun hq => hp (h.mpr hq))]
def iabs (z : Int) : Int := if 0 ≤ z then z else -z
theorem zcmp_0 (x y : Int64) : zcmp x y = 0 ↔ x = y := by
  unfold zcmp
  by_cases h : x = y
  · simp [h]
  · rw [if_neg h]
    by_cases h2 : x < y <;> simp [h, h2]
/-! bits -/
def bitAt (m : Int64) (x : Nat) : Bool := m.toBitVec.getLsbD x
theorem bit_ext {m m' : Int64} (h : ∀ x, x < 64 → bitAt m x = bitAt m' x) : m = m' := by
  apply Int64.toBitVec.inj
  apply BitVec.eq_of_getLsbD_eq
  intro i hi
  exact h i hi
theorem bit_or (a b : Int64) (x : Nat) : bitAt (a ||| b) x = (bitAt a x || bitAt b x) := by simp [bitAt]
theorem bit_and (a b : Int64) (x : Nat) : bitAt (a &&& b) x = (bitAt a x && bitAt b x) := by simp [bitAt]
theorem bit_xor (a b : Int64) (x : Nat) : bitAt (a ^^^ b) x = (bitAt a x ^^ bitAt b x) := by simp [bitAt]
theorem bit_0 (x : Nat) : bitAt 0 x = false := by simp [bitAt]
theorem sh_amt : ∀ k : Nat, k < 64 → (((Int32.ofInt (k : Int)).toInt64 &&& 63).toBitVec.smod 64) = BitVec.ofNat 64 k := by decide +kernel
theorem bit_shl {k : Nat} (hk : k < 64) (x : Nat) (hx : x < 64) : bitAt ((1 : Int64) <<< ((Int32.ofInt (k : Int)).toInt64 &&& 63)) x = decide (x = k) := by
  show ((1 : Int64).toBitVec <<< (((Int32.ofInt (k : Int)).toInt64 &&& 63).toBitVec.smod 64)).getLsbD x = _
  rw [sh_amt k hk, BitVec.shiftLeft_eq', BitVec.getLsbD_shiftLeft]
  have e1 : (BitVec.ofNat 64 k).toNat = k := by simp; omega
  rw [e1]
  have e2 : ((1 : Int64).toBitVec) = 1#64 := rfl
  rw [e2]
  by_cases h : x = k
  · subst h
    simp [hx]
  · by_cases h2 : x < k
    · simp [h, h2]
    · have : ¬ x - k = 0 := by omega
      simp [h, h2, BitVec.getLsbD_one, this]
theorem bit_shr {m : Int64} {k : Nat} (hk : k < 64) : ((m >>> ((Int32.ofInt (k : Int)).toInt64 &&& 63)) &&& 1) = if bitAt m k then 1 else 0 := by
  apply bit_ext
  intro x hx
  rw [bit_and]
  have e1 : (BitVec.ofNat 64 k).toNat = k := by simp; omega
  have e3 : bitAt 1 x = decide (x = 0) := by
    show (1#64).getLsbD x = _
    simp [BitVec.getLsbD_one]
  rw [e3]
  by_cases h : x = 0
  · subst h
    have e2 : bitAt (m >>> ((Int32.ofInt (k : Int)).toInt64 &&& 63)) 0 = bitAt m k := by
      show (m.toBitVec.sshiftRight' (((Int32.ofInt (k : Int)).toInt64 &&& 63).toBitVec.smod 64)).getLsbD 0 = _
      rw [sh_amt k hk, BitVec.sshiftRight', BitVec.getLsbD_sshiftRight, e1]
      simp [hk, bitAt]
    rw [e2]
    by_cases hb : bitAt m k = true
    · simp [hb]
      rfl
    · simp [hb, bit_0]
  · have : bitAt (if bitAt m k = true then 1 else 0) x = false := by
      by_cases hb : bitAt m k = true
      · rw [if_pos hb, e3]
        simp [h]
      · rw [if_neg hb, bit_0]
    rw [this]
    simp [h]
/-- the mask of a row of 48 columns -/
def mb (m : Int64) (f : Nat → Bool) : Prop := ∀ x, x < 64 → bitAt m x = (decide (x < 48) && f x)
theorem mb_eq {m m' : Int64} {f : Nat → Bool} (h : mb m f) (h' : mb m' f) : m = m' := bit_ext (fun x hx => by rw [h x hx, h' x hx])
theorem mb_congr {m : Int64} {f g : Nat → Bool} (h : mb m f) (e : ∀ x, x < 48 → f x = g x) : mb m g := by
  intro x hx
  rw [h x hx]
  by_cases h48 : x < 48
  · rw [e x h48]
  · simp [h48]
theorem mb_and {m m' : Int64} {f g : Nat → Bool} (h : mb m f) (h' : mb m' g) : mb (m &&& m') (fun x => f x && g x) := by
  intro x hx
  rw [bit_and, h x hx, h' x hx]
  by_cases h48 : x < 48 <;> simp [h48]
theorem mb_xor {m m' : Int64} {f g : Nat → Bool} (h : mb m f) (h' : mb m' g) : mb (m ^^^ m') (fun x => f x ^^ g x) := by
  intro x hx
  rw [bit_xor, h x hx, h' x hx]
  by_cases h48 : x < 48 <;> simp [h48]
theorem mb_at0 {m : Int64} {f : Nat → Bool} (h : mb m f) {x : Nat} (hx : x < 48) : zcmp ((m >>> ((Int32.ofInt (x : Int)).toInt64 &&& 63)) &&& 1) 0 = 0 ↔ f x = false := by
  rw [zcmp_0, bit_shr (by omega), h x (by omega)]
  simp only [hx, decide_true, Bool.true_and]
  cases f x <;> decide
theorem mb_at1 {m : Int64} {f : Nat → Bool} (h : mb m f) {x : Nat} (hx : x < 48) : zcmp ((m >>> ((Int32.ofInt (x : Int)).toInt64 &&& 63)) &&& 1) 1 = 0 ↔ f x = true := by
  rw [zcmp_0, bit_shr (by omega), h x (by omega)]
  simp only [hx, decide_true, Bool.true_and]
  cases f x <;> decide
/-! spans -/
def spr (f : Nat → Bool) : Nat → Int × Int × Int
  | 0 => (0, 0, -1)
  | x + 1 => if (spr f x).2.1 < (if f x = true then (spr f x).1 + 1 else 0) then ((if f x = true then (spr f x).1 + 1 else 0), (if f x = true then (spr f x).1 + 1 else 0), (x : Int) - (if f x = true then (spr f x).1 + 1 else 0) + 1) else ((if f x = true then (spr f x).1 + 1 else 0), (spr f x).2.1, (spr f x).2.2)
theorem spr_bd (f : Nat → Bool) : ∀ x : Nat, 0 ≤ (spr f x).1 ∧ (spr f x).1 ≤ x ∧ 0 ≤ (spr f x).2.1 ∧ (spr f x).2.1 ≤ x ∧ -1 ≤ (spr f x).2.2 ∧ (spr f x).2.2 ≤ x ∧ (0 < (spr f x).2.1 → 0 ≤ (spr f x).2.2 ∧ (spr f x).2.2 + (spr f x).2.1 ≤ x)
  | 0 => by simp [spr]
  | x + 1 => by
    have ih := spr_bd f x
    unfold spr
    by_cases hf : f x = true
    · simp only [hf, if_true]
      by_cases h : (spr f x).2.1 < (spr f x).1 + 1
      · rw [if_pos h]
        dsimp only
        omega
      · rw [if_neg h]
        dsimp only
        omega
    · simp only [hf]
      have h : ¬ (spr f x).2.1 < 0 := by omega
      simp only [Bool.false_eq_true, if_false]
      rw [if_neg h]
      dsimp only
      omega
theorem spr_mono {f g : Nat → Bool} (h : ∀ x, x < 48 → f x = true → g x = true) : ∀ x : Nat, x ≤ 48 → (spr f x).1 ≤ (spr g x).1 ∧ (spr f x).2.1 ≤ (spr g x).2.1
  | 0, _ => by simp [spr]
  | x + 1, hx => by
    have ih := spr_mono h x (by omega)
    have b1 := spr_bd f x
    have b2 := spr_bd g x
    unfold spr
    by_cases hf : f x = true
    · have hg := h x (by omega) hf
      simp only [hf, hg, if_true]
      by_cases c1 : (spr f x).2.1 < (spr f x).1 + 1 <;> by_cases c2 : (spr g x).2.1 < (spr g x).1 + 1 <;> simp only [c1, c2, if_true, if_false] <;> omega
    · have c1 : ¬ (spr f x).2.1 < 0 := by omega
      simp only [hf, Bool.false_eq_true, if_false, c1]
      by_cases hg : g x = true
      · simp only [hg, if_true]
        by_cases c2 : (spr g x).2.1 < (spr g x).1 + 1 <;> simp only [c2, if_true, if_false] <;> omega
      · have c2 : ¬ (spr g x).2.1 < 0 := by omega
        simp only [hg, Bool.false_eq_true, if_false, c2]
        omega
theorem spr_congr {f g : Nat → Bool} (h : ∀ x, x < 48 → f x = g x) : ∀ x : Nat, x ≤ 48 → spr f x = spr g x
  | 0, _ => rfl
  | x + 1, hx => by
    unfold spr
    rw [spr_congr h x (by omega), h x (by omega)]
/-! shapes -/
def belK (kind u v a b dep : Int) : Prop := kind = 0 ∨ (kind = 1 ∧ u * b + v * a ≤ a * b) ∨ (kind = 2 ∧ u * u * b * b + v * v * a * a ≤ a * a * b * b) ∨ (kind = 3 ∧ u * b ≤ a * dep)
theorem belK_dec (kind u v a b dep : Int) : (belK kind u v a b dep) ∨ ¬ (belK kind u v a b dep) := Classical.em _
/-- does the cell belong to shape k of the state s? -/
def bel (s : Int → Int) (k x y : Int) : Bool := decide (s (1 + 5 * k + 1) ≤ x ∧ x ≤ s (1 + 5 * k + 3) ∧ s (1 + 5 * k + 2) ≤ y ∧ y ≤ s (1 + 5 * k + 4) ∧
  (s (1 + 5 * k + 0) = 0 ∨ (s (1 + 5 * k + 0) = 1 ∧ iabs (2 * x - s (1 + 5 * k + 1) - s (1 + 5 * k + 3)) * (s (1 + 5 * k + 4) - s (1 + 5 * k + 2) + 1) + iabs (2 * y - s (1 + 5 * k + 2) - s (1 + 5 * k + 4)) * (s (1 + 5 * k + 3) - s (1 + 5 * k + 1) + 1) ≤ (s (1 + 5 * k + 3) - s (1 + 5 * k + 1) + 1) * (s (1 + 5 * k + 4) - s (1 + 5 * k + 2) + 1)) ∨
   (s (1 + 5 * k + 0) = 2 ∧ iabs (2 * x - s (1 + 5 * k + 1) - s (1 + 5 * k + 3)) * iabs (2 * x - s (1 + 5 * k + 1) - s (1 + 5 * k + 3)) * (s (1 + 5 * k + 4) - s (1 + 5 * k + 2) + 1) * (s (1 + 5 * k + 4) - s (1 + 5 * k + 2) + 1) + iabs (2 * y - s (1 + 5 * k + 2) - s (1 + 5 * k + 4)) * iabs (2 * y - s (1 + 5 * k + 2) - s (1 + 5 * k + 4)) * (s (1 + 5 * k + 3) - s (1 + 5 * k + 1) + 1) * (s (1 + 5 * k + 3) - s (1 + 5 * k + 1) + 1) ≤ (s (1 + 5 * k + 3) - s (1 + 5 * k + 1) + 1) * (s (1 + 5 * k + 3) - s (1 + 5 * k + 1) + 1) * (s (1 + 5 * k + 4) - s (1 + 5 * k + 2) + 1) * (s (1 + 5 * k + 4) - s (1 + 5 * k + 2) + 1)) ∨
   (s (1 + 5 * k + 0) = 3 ∧ iabs (2 * x - s (1 + 5 * k + 1) - s (1 + 5 * k + 3)) * (s (1 + 5 * k + 4) - s (1 + 5 * k + 2) + 1) ≤ (s (1 + 5 * k + 3) - s (1 + 5 * k + 1) + 1) * (y - s (1 + 5 * k + 2) + 1))))
def cnt (s : Int → Int) (x y : Int) : Nat → Int
  | 0 => 0
  | k + 1 => cnt s x y k + (if bel s k x y = true then 1 else 0)
theorem cnt_bd (s : Int → Int) (x y : Int) : ∀ k : Nat, 0 ≤ cnt s x y k ∧ cnt s x y k ≤ k
  | 0 => by simp [cnt]
  | k + 1 => by
    have := cnt_bd s x y k
    unfold cnt
    split <;> omega
def freeB (s : Int → Int) (x y : Int) : Bool := decide (cnt s x y (s 0).toNat % 2 = 1)
/-- the free columns of the rows from 'row' on, 'rows' of them -/
def bandB (s : Int → Int) (row : Int) : Nat → Nat → Bool
  | 0, _ => true
  | r + 1, x => bandB s row r x && freeB s x (row + r)
def SL (s : Int → Int) (row rows : Int) : Int := (spr (bandB s row rows.toNat) 48).2.1
def SF (s : Int → Int) (row rows : Int) : Int := (spr (bandB s row rows.toNat) 48).2.2
/-- what the calls keep true of a state -/
def wf (s : Int → Int) : Prop :=
  (0 ≤ s 0 ∧ s 0 ≤ 6) ∧ (∀ k : Int, 0 ≤ k → k < s 0 → 0 ≤ s (1 + 5 * k + 0) ∧ s (1 + 5 * k + 0) ≤ 3 ∧ 0 ≤ s (1 + 5 * k + 1) ∧ s (1 + 5 * k + 1) ≤ s (1 + 5 * k + 3) ∧ s (1 + 5 * k + 3) ≤ 47 ∧ 0 ≤ s (1 + 5 * k + 2) ∧ s (1 + 5 * k + 2) ≤ s (1 + 5 * k + 4) ∧ s (1 + 5 * k + 4) ≤ 35) ∧
  (0 ≤ s 31 ∧ s 31 ≤ 14) ∧ (∀ k : Int, 0 ≤ k → k < s 31 → 1 ≤ s (32 + 3 * k + 0) ∧ s (32 + 3 * k + 0) ≤ 12 ∧ 1 ≤ s (32 + 3 * k + 1) ∧ s (32 + 3 * k + 1) ≤ 3 ∧ 0 ≤ s (32 + 3 * k + 2) ∧ s (32 + 3 * k + 2) ≤ 1) ∧
  (0 ≤ s 74 ∧ s 74 ≤ 4) ∧ (1 ≤ s 75 ∧ s 75 ≤ 20) ∧ (1 ≤ s 76 ∧ s 76 ≤ 20) ∧ (1 ≤ s 77 ∧ s 77 ≤ 20) ∧ (0 ≤ s 78 ∧ s 78 ≤ 35) ∧ (0 ≤ s 79 ∧ s 79 ≤ 5) ∧ (0 ≤ s 80 ∧ s 80 ≤ 2) ∧ (1 ≤ s 81 ∧ s 81 ≤ 9)
