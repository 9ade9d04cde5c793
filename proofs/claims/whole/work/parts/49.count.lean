/-! how many bits -/
def bc (f : Nat → Bool) : Nat → Nat
  | 0 => 0
  | k + 1 => bc f k + if f k = true then 1 else 0
theorem bc_le (f : Nat → Bool) : ∀ k, bc f k ≤ k
  | 0 => Nat.le_refl 0
  | k + 1 => by
    have := bc_le f k
    unfold bc
    split <;> omega
theorem bc_congr {f g : Nat → Bool} : ∀ {k : Nat}, (∀ i, i < k → f i = g i) → bc f k = bc g k
  | 0, _ => rfl
  | k + 1, h => by
    unfold bc
    rw [bc_congr (k := k) (fun i hi => h i (by omega)), h k (by omega)]
set_option maxRecDepth 100000 in
theorem bc_all : ∀ a, a < 32 → ∀ b, b < 256 → fn_J6_bitCount_0f7a4 (nI (256 * a + b)) (fun _ _ => 0) = some (nI (bc (fun i => (256 * a + b).testBit i) 13)) := by decide +kernel
