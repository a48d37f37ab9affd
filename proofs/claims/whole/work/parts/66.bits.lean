/-! bits -/
theorem pg_bit0 : ∀ a : Fin 64, ∀ c : Fin 64, ∀ k : Fin 12, pg_and (pg_shr ((64 * a.val + c.val : Nat) : Int) (k.val : Int)) 1 = if (64 * a.val + c.val).testBit k.val then 1 else 0 := by decide +kernel
theorem pg_bit1 : ∀ a : Fin 64, ∀ c : Fin 64, ∀ k : Fin 12, pg_or ((64 * a.val + c.val : Nat) : Int) (pg_shl 1 (k.val : Int)) = (((64 * a.val + c.val) ||| 2 ^ k.val : Nat) : Int) := by decide +kernel
