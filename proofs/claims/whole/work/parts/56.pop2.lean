/-! bits of small numbers -/
theorem nI_bv (v : Nat) : (nI v).toBitVec = BitVec.ofNat 32 v := rfl
theorem nI_and (a b : Nat) : nI a &&& nI b = nI (a &&& b) := by
  apply Int32.toBitVec_inj.mp
  rw [Int32.toBitVec_and, nI_bv, nI_bv, nI_bv, BitVec.ofNat_and]
