theorem one_of : ∀ S, S < 256 → ∀ a, a < 8 → ∀ b, b < 8 → a ≠ b → (card (S &&& (2 ^ a ||| 2 ^ b)) = 1 ↔ S.testBit a ≠ S.testBit b) := by decide +kernel
