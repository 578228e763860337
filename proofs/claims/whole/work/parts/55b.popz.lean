/-! Kernighan's loop ends within 16 steps -/
def popZ : Nat → Nat → Bool
  | 0, v => Nat.beq v 0
  | n + 1, v => popZ n (v &&& (v - 1))
theorem popZ_all : allB (fun a => allB (fun b => popZ 16 (a * 256 + b)) 256) 256 = true := by decide +kernel
