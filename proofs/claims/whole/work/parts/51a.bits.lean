/-! the class's count of bits -/
theorem bc_all : ∀ a, a < 64 → ∀ b, b < 128 → FJ6_bitCount_0f7a4 (nI (128 * a + b)) = nI (pc (128 * a + b)) := by decide +kernel
theorem x_bits {m : Nat} (h : m < 8192) : FJ6_bitCount_0f7a4 (nI m) = nI (pc m) := by
  have := bc_all (m / 128) (by omega) (m % 128) (Nat.mod_lt _ (by decide))
  rw [show 128 * (m / 128) + m % 128 = m by omega] at this
  exact this
