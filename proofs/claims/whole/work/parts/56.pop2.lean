/-! bits of small numbers; count -/
theorem nI_bv (v : Nat) : (nI v).toBitVec = BitVec.ofNat 32 v := rfl
theorem nI_and (a b : Nat) : nI a &&& nI b = nI (a &&& b) := by
  apply Int32.toBitVec_inj.mp
  rw [Int32.toBitVec_and, nI_bv, nI_bv, nI_bv, BitVec.ofNat_and]
theorem popOk_n {v : Nat} (hv : v < 65536) : popF v = popK 16 v ∧ ((v >>> 1) &&& 1431655765) ≤ v := by
  have h1 := allB_of pop_all (v / 256) (by omega)
  have h2 := allB_of h1 (v % 256) (by omega)
  have e : v / 256 * 256 + v % 256 = v := by omega
  rw [e] at h2
  unfold popOk at h2
  rw [Bool.and_eq_true] at h2
  exact ⟨Nat.eq_of_beq_eq_true h2.1, Nat.le_of_ble_eq_true h2.2⟩
theorem popZ_n {v : Nat} (hv : v < 65536) : popZ 16 v = true := by
  have h1 := allB_of popZ_all (v / 256) (by omega)
  have h2 := allB_of h1 (v % 256) (by omega)
  have e : v / 256 * 256 + v % 256 = v := by omega
  rw [e] at h2
  exact h2
theorem ush_n {a k : Nat} (ha : a < 2 ^ 32) (s : Int32) (hs : ((s.toUInt32 &&& Int32.toUInt32 31).toBitVec % 32).toNat = k) : ((nI a).toUInt32 >>> (s.toUInt32 &&& Int32.toUInt32 31)).toInt32 = nI (a >>> k) := by
  rw [pk_ushrN ha s k hs, Nat.shiftRight_eq_div_pow]
theorem pA {v : Nat} (hv : v < 65536) : nI v - ((Int32.toUInt32 (nI v) >>> (Int32.toUInt32 1 &&& Int32.toUInt32 31)).toInt32 &&& 1431655765) = nI (popA v) := by
  rw [ush_n (k := 1) (by omega) 1 (by decide), show (1431655765 : Int32) = nI 1431655765 from rfl, nI_and, pk_sub (popOk_n hv).2]
  rfl
theorem pB {v : Nat} (hv : v < 2 ^ 32) : (nI v &&& 858993459) + ((Int32.toUInt32 (nI v) >>> (Int32.toUInt32 2 &&& Int32.toUInt32 31)).toInt32 &&& 858993459) = nI (popB v) := by
  rw [ush_n (k := 2) hv 2 (by decide), show (858993459 : Int32) = nI 858993459 from rfl, nI_and, nI_and, nI_add]
  rfl
theorem pC {v : Nat} (hv : v < 2 ^ 32) : (nI v + (Int32.toUInt32 (nI v) >>> (Int32.toUInt32 4 &&& Int32.toUInt32 31)).toInt32) &&& 252645135 = nI (popC v) := by
  rw [ush_n (k := 4) hv 4 (by decide), show (252645135 : Int32) = nI 252645135 from rfl, nI_add, nI_and]
  rfl
theorem pD {v : Nat} (hv : v < 2 ^ 32) : nI v + (Int32.toUInt32 (nI v) >>> (Int32.toUInt32 8 &&& Int32.toUInt32 31)).toInt32 = nI (popD v) := by
  rw [ush_n (k := 8) hv 8 (by decide), nI_add]
  rfl
theorem pE {v : Nat} (hv : v < 2 ^ 32) : (nI v + (Int32.toUInt32 (nI v) >>> (Int32.toUInt32 16 &&& Int32.toUInt32 31)).toInt32) &&& 63 = nI (popE v) := by
  rw [ush_n (k := 16) hv 16 (by decide), show (63 : Int32) = nI 63 from rfl, nI_add, nI_and]
  rfl
theorem Sk_bitCount {v : Nat} {g : Sg} {Q : Int32 → Sg → Prop} (hv : v < 65536) (hQ : Q (nI (popK 16 v)) g) : Ck_bitCount (nI v) g Q := by
  refine Vk_bitCount ?_
  have b1 : popA v < 2 ^ 32 := by unfold popA; omega
  have b2 : popB (popA v) < 2 ^ 32 := by
    unfold popB
    have h1 := Nat.and_le_right (n := popA v) (m := 858993459)
    have h2 := Nat.and_le_right (n := popA v >>> 2) (m := 858993459)
    omega
  have b3 : popC (popB (popA v)) ≤ 252645135 := Nat.and_le_right
  have b4 : popD (popC (popB (popA v))) < 2 ^ 32 := by
    have h1 : popC (popB (popA v)) >>> 8 ≤ popC (popB (popA v)) := by rw [Nat.shiftRight_eq_div_pow]; exact Nat.div_le_self _ _
    unfold popD
    omega
  rw [pA hv, pB b1, pC b2, pD (by omega), pE b4]
  rw [← (popOk_n hv).1] at hQ
  exact hQ
theorem Sm_ones {v : Nat} {g : Sg} {Q : Int32 → Sg → Prop} (hv : v < 65536) (hQ : Q (nI (popK 16 v)) g) : Cm_ones (nI v) g Q := by
  have loop : ∀ (k v c : Nat), v < 65536 → popZ k v = true → Q (nI (c + popK k v)) g → Hm_ones_4 (nI c) (nI v) g Q := by
    intro k
    induction k with
    | zero =>
      intro v c hv hz hq
      have h0 : v = 0 := Nat.eq_of_beq_eq_true hz
      subst h0
      exact Vm_ones_4 (brT rfl hq)
    | succ k ih =>
      intro v c hv hz hq
      by_cases h0 : v = 0
      · subst h0
        exact Vm_ones_4 (brT rfl hq)
      · refine Vm_ones_4 (brF (fun hx => h0 ((nI_eq (b := 0) (by omega) (by omega)).mp hx)) ?_)
        rw [show nI v - 1 = nI (v - 1) from pk_sub (a := v) (b := 1) (by omega), nI_and, nI_1]
        have hle := Nat.and_le_left (n := v) (m := v - 1)
        refine ih _ _ (by omega) hz ?_
        have e : popK (k + 1) v = 1 + popK k (v &&& (v - 1)) := by
          show (bif Nat.beq v 0 then 0 else 1 + popK k (v &&& (v - 1))) = _
          have : Nat.beq v 0 = false := by
            cases hb : Nat.beq v 0
            · rfl
            · exact absurd (Nat.eq_of_beq_eq_true hb) h0
          rw [this]
          rfl
        rw [e] at hq
        rw [show c + 1 + popK k (v &&& (v - 1)) = c + (1 + popK k (v &&& (v - 1))) by omega]
        exact hq
  exact Vm_ones (loop 16 v 0 hv (popZ_n hv) (by rw [Nat.zero_add]; exact hQ))
theorem bsf_n (f : Nat → Bool) : ∀ n : Nat, n ≤ 16 → ∃ v : Nat, v < 2 ^ n ∧ bsf n f = nI v := by
  intro n
  induction n with
  | zero => intro _; exact ⟨0, by decide, rfl⟩
  | succ n ih =>
    intro hn
    obtain ⟨v, h1, h2⟩ := ih (by omega)
    have e : bsf (n + 1) f = bsf n f ||| (if f n = true then sb (nI n) else 0) := rfl
    have hp : 2 ^ (n + 1) = 2 * 2 ^ n := by rw [Nat.pow_succ]; omega
    cases hf : f n with
    | false =>
      refine ⟨v, by omega, ?_⟩
      rw [e, hf, if_neg (by decide), Int32.or_zero, h2]
    | true =>
      refine ⟨v ||| 2 ^ n, Nat.or_lt_two_pow (by omega) (by omega), ?_⟩
      have hs : sb (nI n) = nI (2 ^ n) := by
        apply Int32.toBitVec_inj.mp
        rw [sb_bv, pk_tn (by omega), Nat.mod_eq_of_lt (by omega), nI_bv]
        apply BitVec.eq_of_toNat_eq
        rw [BitVec.toNat_twoPow, BitVec.toNat_ofNat]
      rw [e, hf, if_pos rfl, h2, hs]
      apply Int32.toBitVec_inj.mp
      rw [Int32.toBitVec_or, nI_bv, nI_bv, nI_bv, BitVec.ofNat_or]
/-- how many wires lie -/
noncomputable def lyn (P : Nat → Int32) : Nat := Classical.choose (bsf_n (fun w => !decide (P w = 0)) 16 (Nat.le_refl _))
theorem lyn_is (P : Nat → Int32) : lyn P < 65536 ∧ ly P = nI (lyn P) := Classical.choose_spec (bsf_n (fun w => !decide (P w = 0)) 16 (Nat.le_refl _))
