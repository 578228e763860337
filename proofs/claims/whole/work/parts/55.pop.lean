/-! the number of bits: two ways -/
def popA (v : Nat) : Nat := v - ((v >>> 1) &&& 1431655765)
def popB (v : Nat) : Nat := (v &&& 858993459) + ((v >>> 2) &&& 858993459)
def popC (v : Nat) : Nat := (v + (v >>> 4)) &&& 252645135
def popD (v : Nat) : Nat := v + (v >>> 8)
def popE (v : Nat) : Nat := (v + (v >>> 16)) &&& 63
def popF (v : Nat) : Nat := popE (popD (popC (popB (popA v))))
def popK : Nat → Nat → Nat
  | 0, _ => 0
  | n + 1, v => bif Nat.beq v 0 then 0 else 1 + popK n (v &&& (v - 1))
def allB (f : Nat → Bool) : Nat → Bool
  | 0 => true
  | n + 1 => f n && allB f n
theorem allB_of {f : Nat → Bool} : ∀ {n : Nat}, allB f n = true → ∀ i, i < n → f i = true := by
  intro n
  induction n with
  | zero => intro _ i hi; omega
  | succ n ih =>
    intro h i hi
    have h' : (f n && allB f n) = true := h
    rw [Bool.and_eq_true] at h'
    by_cases hn : i = n
    · rw [hn]; exact h'.1
    · exact ih h'.2 i (by omega)
def popOk (v : Nat) : Bool := Nat.beq (popF v) (popK 16 v) && Nat.ble ((v >>> 1) &&& 1431655765) v
theorem pop_all : allB (fun a => allB (fun b => popOk (a * 256 + b)) 256) 256 = true := by decide +kernel
