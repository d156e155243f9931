/-! how many bits are set -/
def Mk (c : Nat) : Nat → Nat
  | 0 => 0
  | n + 1 => c + 256 * Mk c n
theorem and256 (a b c d : Nat) (ha : a < 256) (hc : c < 256) : (a + 256 * b) &&& (c + 256 * d) = (a &&& c) + 256 * (b &&& d) := by
  have h1 : ((a + 256 * b) &&& (c + 256 * d)) % 2 ^ 8 = (a &&& c) := by
    rw [Nat.and_mod_two_pow, show (a + 256 * b) % 2 ^ 8 = a by omega, show (c + 256 * d) % 2 ^ 8 = c by omega]
  have h2 : ((a + 256 * b) &&& (c + 256 * d)) / 2 ^ 8 = (b &&& d) := by
    rw [Nat.and_div_two_pow, show (a + 256 * b) / 2 ^ 8 = b by omega, show (c + 256 * d) / 2 ^ 8 = d by omega]
  omega
def t1 (b : Nat) : Nat := b - (b / 2 &&& 85)
def t2 (b : Nat) : Nat := (b &&& 51) + (b / 4 &&& 51)
def t3 (b : Nat) : Nat := (b + b / 16) &&& 15
def bits (b : Nat) : Nat → Nat
  | 0 => 0
  | n + 1 => bits b n + (if b.testBit n = true then 1 else 0)
theorem b_1 : ∀ b : Nat, b < 256 → ∀ q : Nat, q < 2 → (b / 2 + 128 * q) &&& 85 = (b / 2 &&& 85) := by decide +kernel
theorem b_1' : ∀ b : Nat, b < 256 → (b / 2 &&& 85) ≤ b ∧ t1 b < 256 := by decide +kernel
theorem b_2 : ∀ b : Nat, b < 256 → ∀ q : Nat, q < 4 → (b / 4 + 64 * q) &&& 51 = (b / 4 &&& 51) := by decide +kernel
theorem b_2' : ∀ b : Nat, b < 256 → t2 (t1 b) < 69 ∧ (t2 (t1 b)) % 16 < 5 ∧ (t1 b &&& 51) < 256 ∧ (t1 b / 4 &&& 51) < 256 := by decide +kernel
theorem b_3 : ∀ b : Nat, b < 69 → ∀ q : Nat, q < 5 → (b + b / 16 + 16 * q) &&& 15 = t3 b ∧ b + b / 16 + 16 * q < 256 := by decide +kernel
theorem b_4 : ∀ b : Nat, b < 256 → t3 (t2 (t1 b)) = bits b 8 ∧ bits b 8 ≤ 8 := by decide +kernel
