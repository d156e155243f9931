/-! how many bits are set -/
def Mk (c : Nat) : Nat → Nat
  | 0 => 0
  | n + 1 => c + 256 * Mk c n
theorem and256 (a b c d : Nat) (ha : a < 256) (hc : c < 256) : (a + 256 * b) &&& (c + 256 * d) = (a &&& c) + 256 * (b &&& d) := by
  have h1 : ((a + 256 * b) &&& (c + 256 * d)) % 2 ^ 8 = (a &&& c) := by
    rw [Nat.and_mod_two_pow, show (a + 256 * b) % 2 ^ 8 = a by omega, show (c + 256 * d) % 2 ^ 8 = c by omega]
  have h2 : ((a + 256 * b) &&& (c + 256 * d)) / 2 ^ 8 = (b &&& d) := by
    rw [Nat.and_div_two_pow, show (a + 256 * b) / 2 ^ 8 = b by omega, show (c + 256 * d) / 2 ^ 8 = d by omega]
  omega
def t1 (b : Nat) : Nat := b - (b / 2 &&& 85)
def t2 (b : Nat) : Nat := (b &&& 51) + (b / 4 &&& 51)
def t3 (b : Nat) : Nat := (b + b / 16) &&& 15
def bits (b : Nat) : Nat → Nat
  | 0 => 0
  | n + 1 => bits b n + (if b.testBit n = true then 1 else 0)
theorem b_1 : ∀ b : Nat, b < 256 → ∀ q : Nat, q < 2 → (b / 2 + 128 * q) &&& 85 = (b / 2 &&& 85) := by decide +kernel
theorem b_1' : ∀ b : Nat, b < 256 → (b / 2 &&& 85) ≤ b ∧ t1 b < 256 := by decide +kernel
theorem b_2 : ∀ b : Nat, b < 256 → ∀ q : Nat, q < 4 → (b / 4 + 64 * q) &&& 51 = (b / 4 &&& 51) := by decide +kernel
theorem b_2' : ∀ b : Nat, b < 256 → t2 (t1 b) < 69 ∧ (t2 (t1 b)) % 16 < 5 ∧ (t1 b &&& 51) < 256 ∧ (t1 b / 4 &&& 51) < 256 := by decide +kernel
theorem b_3 : ∀ b : Nat, b < 69 → ∀ q : Nat, q < 5 → (b + b / 16 + 16 * q) &&& 15 = t3 b ∧ b + b / 16 + 16 * q < 256 := by decide +kernel
theorem b_4 : ∀ b : Nat, b < 256 → t3 (t2 (t1 b)) = bits b 8 ∧ bits b 8 ≤ 8 := by decide +kernel
def mapB (f : Nat → Nat) : Nat → Nat → Nat
  | 0, _ => 0
  | n + 1, x => f (x % 256) + 256 * mapB f n (x / 256)
theorem mapB_lo {f : Nat → Nat} (hf : ∀ b, b < 256 → f b < 256) : ∀ n x, mapB f n x % 256 = if n = 0 then 0 else f (x % 256)
  | 0, x => by simp [mapB]
  | n + 1, x => by
    have := hf (x % 256) (by omega)
    unfold mapB
    rw [if_neg (by omega)]
    omega
theorem mapB_comp {f g : Nat → Nat} (hg : ∀ b, b < 256 → g b < 256) : ∀ n x, mapB f n (mapB g n x) = mapB (fun b => f (g b)) n x
  | 0, x => rfl
  | n + 1, x => by
    have h := hg (x % 256) (by omega)
    show f ((g (x % 256) + 256 * mapB g n (x / 256)) % 256) + 256 * mapB f n ((g (x % 256) + 256 * mapB g n (x / 256)) / 256) = f (g (x % 256)) + 256 * mapB (fun b => f (g b)) n (x / 256)
    rw [show (g (x % 256) + 256 * mapB g n (x / 256)) % 256 = g (x % 256) by omega, show (g (x % 256) + 256 * mapB g n (x / 256)) / 256 = mapB g n (x / 256) by omega, mapB_comp hg n (x / 256)]
theorem st1 : ∀ n x : Nat, x < 256 ^ n → (x / 2 &&& Mk 85 n) = mapB (fun b => b / 2 &&& 85) n x ∧ x = mapB (fun b => b / 2 &&& 85) n x + mapB t1 n x
  | 0, x, h => by
    have : x = 0 := by simpa using h
    subst this
    simp [Mk, mapB]
  | n + 1, x, h => by
    have hy : x / 256 < 256 ^ n := by
      rw [Nat.pow_succ] at h
      omega
    have ih := st1 n (x / 256) hy
    have e : x / 2 = (x % 256 / 2 + 128 * (x / 256 % 2)) + 256 * (x / 256 / 2) := by omega
    have h1 := b_1 (x % 256) (by omega) (x / 256 % 2) (by omega)
    have h2 := b_1' (x % 256) (by omega)
    have h3 : t1 (x % 256) = x % 256 - (x % 256 / 2 &&& 85) := rfl
    show (x / 2 &&& (85 + 256 * Mk 85 n)) = (x % 256 / 2 &&& 85) + 256 * mapB (fun b => b / 2 &&& 85) n (x / 256) ∧ x = ((x % 256 / 2 &&& 85) + 256 * mapB (fun b => b / 2 &&& 85) n (x / 256)) + (t1 (x % 256) + 256 * mapB t1 n (x / 256))
    constructor
    · rw [e, and256 _ _ _ _ (by omega) (by omega), h1, ih.1]
    · have := ih.2
      omega
theorem st2 : ∀ n x : Nat, (x &&& Mk 51 n) + (x / 4 &&& Mk 51 n) = mapB t2 n x
  | 0, x => by simp [Mk, mapB]
  | n + 1, x => by
    have ih := st2 n (x / 256)
    have e : x / 4 = (x % 256 / 4 + 64 * (x / 256 % 4)) + 256 * (x / 256 / 4) := by omega
    have e' : x = x % 256 + 256 * (x / 256) := by omega
    have h1 := b_2 (x % 256) (by omega) (x / 256 % 4) (by omega)
    show (x &&& (51 + 256 * Mk 51 n)) + (x / 4 &&& (51 + 256 * Mk 51 n)) = t2 (x % 256) + 256 * mapB t2 n (x / 256)
    have a1 : (x &&& (51 + 256 * Mk 51 n)) = (x % 256 &&& 51) + 256 * (x / 256 &&& Mk 51 n) := by
      conv => lhs; rw [e']
      exact and256 _ _ _ _ (by omega) (by omega)
    have a2 : (x / 4 &&& (51 + 256 * Mk 51 n)) = (x % 256 / 4 &&& 51) + 256 * (x / 256 / 4 &&& Mk 51 n) := by
      rw [e, and256 _ _ _ _ (by omega) (by omega), h1]
    rw [a1, a2, ← ih]
    have h3 : t2 (x % 256) = (x % 256 &&& 51) + (x % 256 / 4 &&& 51) := rfl
    omega
theorem st3 {g : Nat → Nat} (hg : ∀ b, b < 256 → g b < 69 ∧ g b % 16 < 5) : ∀ n x : Nat, (mapB g n x + mapB g n x / 16 &&& Mk 15 n) = mapB (fun b => t3 (g b)) n x
  | 0, x => by simp [Mk, mapB]
  | n + 1, x => by
    have ih := st3 hg n (x / 256)
    have h0 := hg (x % 256) (by omega)
    have h1 := mapB_lo (f := g) (fun b hb => by have := hg b hb; omega) n (x / 256)
    have h2 : mapB g n (x / 256) % 16 < 5 := by
      by_cases e : n = 0
      · rw [if_pos e] at h1
        omega
      · rw [if_neg e] at h1
        have := hg (x / 256 % 256) (by omega)
        omega
    have h3 := b_3 (g (x % 256)) h0.1 (mapB g n (x / 256) % 16) h2
    show (g (x % 256) + 256 * mapB g n (x / 256) + (g (x % 256) + 256 * mapB g n (x / 256)) / 16 &&& (15 + 256 * Mk 15 n)) = t3 (g (x % 256)) + 256 * mapB (fun b => t3 (g b)) n (x / 256)
    have e : g (x % 256) + 256 * mapB g n (x / 256) + (g (x % 256) + 256 * mapB g n (x / 256)) / 16 = (g (x % 256) + g (x % 256) / 16 + 16 * (mapB g n (x / 256) % 16)) + 256 * (mapB g n (x / 256) + mapB g n (x / 256) / 16) := by omega
    rw [e, and256 _ _ _ _ h3.2 (by omega), h3.1, ih]
theorem bits_split (x : Nat) : ∀ m : Nat, bits x (8 + m) = bits (x % 256) 8 + bits (x / 256) m
  | 0 => by
    have h : ∀ n, n ≤ 8 → bits x n = bits (x % 256) n := by
      intro n
      induction n with
      | zero => intro _; rfl
      | succ n ih =>
        intro hn
        unfold bits
        rw [ih (by omega), show (256 : Nat) = 2 ^ 8 from rfl, Nat.testBit_mod_two_pow]
        simp [show n < 8 by omega]
    rw [h 8 (by omega)]
    rfl
  | m + 1 => by
    show bits x (8 + m) + (if x.testBit (8 + m) = true then 1 else 0) = bits (x % 256) 8 + (bits (x / 256) m + (if (x / 256).testBit m = true then 1 else 0))
    have e : (x / 256).testBit m = x.testBit (8 + m) := by
      rw [show (256 : Nat) = 2 ^ 8 from rfl, Nat.testBit_div_two_pow, Nat.add_comm]
    rw [bits_split x m, e]
    omega
theorem tail8 {x3 : Nat} {q0 q1 q2 q3 q4 q5 q6 q7 : Nat} (h : q0 ≤ 8 ∧ q1 ≤ 8 ∧ q2 ≤ 8 ∧ q3 ≤ 8 ∧ q4 ≤ 8 ∧ q5 ≤ 8 ∧ q6 ≤ 8 ∧ q7 ≤ 8) (e : x3 = q0 + 256 * (q1 + 256 * (q2 + 256 * (q3 + 256 * (q4 + 256 * (q5 + 256 * (q6 + 256 * (q7 + 256 * 0)))))))) :
    (x3 + x3 / 256 + (x3 + x3 / 256) / 65536 + (x3 + x3 / 256 + (x3 + x3 / 256) / 65536) / 4294967296) % 128 = q0 + q1 + q2 + q3 + q4 + q5 + q6 + q7 ∧ x3 < 2 ^ 61 := by
  obtain ⟨h0, h1, h2, h3, h4, h5, h6, h7⟩ := h
  have d1 : x3 / 256 = q1 + 256 * (q2 + 256 * (q3 + 256 * (q4 + 256 * (q5 + 256 * (q6 + 256 * q7))))) := by omega
  generalize x3 / 256 = y1 at d1
  have d2 : (x3 + y1) / 65536 = (q2 + q3) + 256 * ((q3 + q4) + 256 * ((q4 + q5) + 256 * ((q5 + q6) + 256 * ((q6 + q7) + 256 * q7)))) := by omega
  generalize (x3 + y1) / 65536 = y2 at d2
  have d3 : (x3 + y1 + y2) / 4294967296 = (q4 + q5 + q6 + q7) + 256 * ((q5 + q6 + q7) + 256 * ((q6 + q7) + 256 * q7)) := by omega
  generalize (x3 + y1 + y2) / 4294967296 = y3 at d3
  have d4 : x3 + y1 + y2 + y3 = (q0 + q1 + q2 + q3 + q4 + q5 + q6 + q7) + 128 * ((x3 + y1 + y2 + y3 - (q0 + q1 + q2 + q3 + q4 + q5 + q6 + q7)) / 128) := by omega
  constructor
  · omega
  · omega
def un (x : Int64) : Nat := x.toBitVec.toNat
theorem un_lt (x : Int64) : un x < 2 ^ 64 := x.toBitVec.isLt
theorem un_and (x y : Int64) : un (x &&& y) = un x &&& un y := by
  unfold un
  rw [Int64.toBitVec_and, BitVec.toNat_and]
theorem un_add {x y : Int64} (h : un x + un y < 2 ^ 64) : un (x + y) = un x + un y := by
  unfold un at h ⊢
  rw [Int64.toBitVec_add, BitVec.toNat_add, Nat.mod_eq_of_lt h]
theorem un_sub {x y : Int64} (h : un y ≤ un x) : un (x - y) = un x - un y := by
  have hx := un_lt x
  unfold un at h hx ⊢
  rw [Int64.toBitVec_sub, BitVec.toNat_sub]
  omega
theorem un_shr (x : Int64) (k : Nat) (hk : k = 1 ∨ k = 2 ∨ k = 4 ∨ k = 8 ∨ k = 16 ∨ k = 32) : un ((x.toUInt64 >>> ((Int32.ofInt (k : Int)).toInt64.toUInt64 &&& Int64.toUInt64 63)).toInt64) = un x / 2 ^ k := by
  show (x.toBitVec >>> (((Int32.ofInt (k : Int)).toInt64.toUInt64 &&& Int64.toUInt64 63) % 64).toBitVec).toNat = _
  rw [BitVec.ushiftRight_eq', BitVec.toNat_ushiftRight, Nat.shiftRight_eq_div_pow]
  have : (((Int32.ofInt (k : Int)).toInt64.toUInt64 &&& Int64.toUInt64 63) % 64).toBitVec.toNat = k := by
    rcases hk with rfl | rfl | rfl | rfl | rfl | rfl <;> decide +kernel
  rw [this]
  rfl
def sh (x : Int64) (k : Int) : Int64 := (x.toUInt64 >>> ((Int32.ofInt k).toInt64.toUInt64 &&& Int64.toUInt64 63)).toInt64
def p1 (y : Int64) : Int64 := y - (sh y 1 &&& (6148914691236517205 : Int64))
def p2 (y : Int64) : Int64 := (y &&& (3689348814741910323 : Int64)) + (sh y 2 &&& (3689348814741910323 : Int64))
def p3 (y : Int64) : Int64 := (y + sh y 4) &&& (1085102592571150095 : Int64)
def p4 (y : Int64) (k : Int) : Int64 := y + sh y k
theorem popc (y : Int64) : Int32.ofInt ((p4 (p4 (p4 (p3 (p2 (p1 y))) 8) 16) 32).toInt32.toInt) &&& Int32.ofInt 127 = Int32.ofInt ((bits (un y) 64 : Nat) : Int) := by
  have u1 : un (p1 y) = mapB t1 8 (un y) := by
    have h := st1 8 (un y) (un_lt y)
    have e : un (sh y 1 &&& (6148914691236517205 : Int64)) = mapB (fun b => b / 2 &&& 85) 8 (un y) := by
      rw [un_and, ← h.1]
      congr 1
    unfold p1
    rw [un_sub (by omega), e]
    omega
  have g1 : ∀ b, b < 256 → t1 b < 256 := fun b hb => (b_1' b hb).2
  have u2 : un (p2 (p1 y)) = mapB (fun b => t2 (t1 b)) 8 (un y) := by
    have h := st2 8 (un (p1 y))
    have e1 : un (p1 y &&& (3689348814741910323 : Int64)) = un (p1 y) &&& Mk 51 8 := un_and _ _
    have e2 : un (sh (p1 y) 2 &&& (3689348814741910323 : Int64)) = un (p1 y) / 4 &&& Mk 51 8 := by
      rw [un_and]
      congr 1
      exact un_shr (p1 y) 2 (by omega)
    have l1 : (un (p1 y) &&& Mk 51 8) ≤ Mk 51 8 := Nat.and_le_right
    have l2 : (un (p1 y) / 4 &&& Mk 51 8) ≤ Mk 51 8 := Nat.and_le_right
    have l3 : Mk 51 8 = 3689348814741910323 := by decide
    unfold p2
    rw [un_add (by omega), e1, e2, h, u1, mapB_comp g1]
  have g2 : ∀ b, b < 256 → t2 (t1 b) < 69 ∧ t2 (t1 b) % 16 < 5 := fun b hb => ⟨(b_2' b hb).1, (b_2' b hb).2.1⟩
  have bnd : ∀ n x, mapB (fun b => t2 (t1 b)) n x ≤ 68 * Mk 1 n := by
    intro n
    induction n with
    | zero => intro x; exact Nat.le_refl _
    | succ n ih =>
      intro x
      have h1 := ih (x / 256)
      have h2 := (g2 (x % 256) (by omega)).1
      show t2 (t1 (x % 256)) + 256 * mapB (fun b => t2 (t1 b)) n (x / 256) ≤ 68 * (1 + 256 * Mk 1 n)
      omega
  have u3 : un (p3 (p2 (p1 y))) = mapB (fun b => t3 (t2 (t1 b))) 8 (un y) := by
    have h := st3 g2 8 (un y)
    have hb := bnd 8 (un y)
    have l3 : Mk 1 8 = 72340172838076673 := by decide
    have e2 : un (sh (p2 (p1 y)) 4) = un (p2 (p1 y)) / 16 := un_shr (p2 (p1 y)) 4 (by omega)
    unfold p3
    rw [un_and, un_add (by rw [e2, u2]; omega), e2, u2]
    exact h
  have hbits : mapB (fun b => t3 (t2 (t1 b))) 8 (un y) = mapB (fun b => bits b 8) 8 (un y) := by
    have : ∀ n x, mapB (fun b => t3 (t2 (t1 b))) n x = mapB (fun b => bits b 8) n x := by
      intro n
      induction n with
      | zero => intro x; rfl
      | succ n ih =>
        intro x
        show t3 (t2 (t1 (x % 256))) + 256 * mapB (fun b => t3 (t2 (t1 b))) n (x / 256) = bits (x % 256) 8 + 256 * mapB (fun b => bits b 8) n (x / 256)
        rw [ih, (b_4 (x % 256) (by omega)).1]
    exact this 8 (un y)
  have hle : ∀ b, b % 256 < 256 → bits (b % 256) 8 ≤ 8 := fun b hb => (b_4 _ hb).2
  have t := tail8 (x3 := un (p3 (p2 (p1 y)))) ⟨hle _ (Nat.mod_lt _ (by decide)), hle _ (Nat.mod_lt _ (by decide)), hle _ (Nat.mod_lt _ (by decide)), hle _ (Nat.mod_lt _ (by decide)), hle _ (Nat.mod_lt _ (by decide)), hle _ (Nat.mod_lt _ (by decide)), hle _ (Nat.mod_lt _ (by decide)), hle _ (Nat.mod_lt _ (by decide))⟩ (u3.trans (hbits.trans (show mapB (fun b => bits b 8) 8 (un y) = _ from rfl)))
  have tot : bits (un y) 64 = bits (un y % 256) 8 + bits (un y / 256 % 256) 8 + bits (un y / 256 / 256 % 256) 8 + bits (un y / 256 / 256 / 256 % 256) 8 + bits (un y / 256 / 256 / 256 / 256 % 256) 8 + bits (un y / 256 / 256 / 256 / 256 / 256 % 256) 8 + bits (un y / 256 / 256 / 256 / 256 / 256 / 256 % 256) 8 + bits (un y / 256 / 256 / 256 / 256 / 256 / 256 / 256 % 256) 8 := by
    rw [show (64 : Nat) = 8 + 56 from rfl, bits_split, show (56 : Nat) = 8 + 48 from rfl, bits_split, show (48 : Nat) = 8 + 40 from rfl, bits_split, show (40 : Nat) = 8 + 32 from rfl, bits_split, show (32 : Nat) = 8 + 24 from rfl, bits_split, show (24 : Nat) = 8 + 16 from rfl, bits_split, show (16 : Nat) = 8 + 8 from rfl, bits_split, show bits (un y / 256 / 256 / 256 / 256 / 256 / 256 / 256) 8 = bits (un y / 256 / 256 / 256 / 256 / 256 / 256 / 256) (8 + 0) from rfl, bits_split]
    simp only [bits]
    omega
  generalize hz : un (p3 (p2 (p1 y))) = z at t
  generalize p3 (p2 (p1 y)) = Y at hz
  have v4 : un (p4 Y 8) = z + z / 256 := by
    have e : un (sh Y 8) = un Y / 256 := un_shr Y 8 (by omega)
    unfold p4
    rw [un_add (by rw [e, hz]; omega), e, hz]
  have v5 : un (p4 (p4 Y 8) 16) = z + z / 256 + (z + z / 256) / 65536 := by
    have e : un (sh (p4 Y 8) 16) = un (p4 Y 8) / 65536 := un_shr (p4 Y 8) 16 (by omega)
    rw [show p4 (p4 Y 8) 16 = p4 Y 8 + sh (p4 Y 8) 16 from rfl, un_add (by rw [e, v4]; omega), e, v4]
  have v6 : un (p4 (p4 (p4 Y 8) 16) 32) = z + z / 256 + (z + z / 256) / 65536 + (z + z / 256 + (z + z / 256) / 65536) / 4294967296 := by
    have e : un (sh (p4 (p4 Y 8) 16) 32) = un (p4 (p4 Y 8) 16) / 4294967296 := un_shr (p4 (p4 Y 8) 16) 32 (by omega)
    rw [show p4 (p4 (p4 Y 8) 16) 32 = p4 (p4 Y 8) 16 + sh (p4 (p4 Y 8) 16) 32 from rfl, un_add (by rw [e, v5]; omega), e, v5]
  have hfin : un (p4 (p4 (p4 Y 8) 16) 32) % 128 = bits (un y) 64 := by
    rw [v6, tot]
    exact t.1
  generalize p4 (p4 (p4 Y 8) 16) 32 = F at hfin
  rw [Int32.ofInt_toInt]
  apply Int32.toBitVec.inj
  rw [Int32.toBitVec_and]
  apply BitVec.eq_of_toNat_eq
  rw [BitVec.toNat_and]
  have e1 : F.toInt32.toBitVec.toNat = un F % 2 ^ 32 := by
    rw [show F.toInt32.toBitVec = F.toBitVec.signExtend 32 from rfl, BitVec.signExtend_eq_setWidth_of_le _ (by omega), BitVec.toNat_setWidth]
    rfl
  have e2 : (Int32.ofInt 127).toBitVec.toNat = 2 ^ 7 - 1 := by decide
  rw [e1, e2, Nat.and_two_pow_sub_one_eq_mod]
  have e3 : (Int32.ofInt ((bits (un y) 64 : Nat) : Int)).toBitVec.toNat = bits (un y) 64 % 2 ^ 32 := by
    rw [show (Int32.ofInt ((bits (un y) 64 : Nat) : Int)).toBitVec = BitVec.ofInt 32 ((bits (un y) 64 : Nat) : Int) from rfl, BitVec.ofInt_natCast, BitVec.toNat_ofNat]
  rw [e3, ← hfin]
  omega
theorem pJ13_bitCount {d : Nat} {Q : Int → zMem → Prop} {μ : zMem} {y : Int64} (hQ : Q ((bits (un y) 64 : Nat) : Int) μ) : kJ13_bitCount_95d88 d y μ Q :=
  bJ13_bitCount_95d88 ⟨((bits (un y) 64 : Nat) : Int), popc y, hQ⟩
