/-! leaf answers -/
def bt (x : Int32) (i : Nat) : Bool := x.toBitVec.getLsbD i
def bP (P : Prop) [Decidable P] : Int32 := if P then 1 else 0
/-- the bit of x whose number is n's lowest five bits -/
def tbb (x n : Int32) : Bool := bt x (n.toBitVec.toNat % 32)
def sb (n : Int32) : Int32 := 1 <<< (n &&& 31)
abbrev isE (x : Int32) : Prop := 0 ≤ x ∧ x ≤ 7
abbrev isW (x : Int32) : Prop := 0 ≤ x ∧ x ≤ 15
abbrev isS (x : Int32) : Prop := 0 ≤ x ∧ x ≤ 3
abbrev isF (x : Int32) : Prop := 0 ≤ x ∧ x ≤ 2
abbrev twoE (a b : Int32) : Prop := isE a ∧ isE b ∧ ¬ a = b
theorem bP_t {P : Prop} [Decidable P] (h : P) : bP P = 1 := if_pos h
theorem bP_f {P : Prop} [Decidable P] (h : ¬ P) : bP P = 0 := if_neg h
theorem bP_1 (P : Prop) [Decidable P] : bP P &&& 1 = bP P := by unfold bP; split <;> decide
theorem bP_z {P : Prop} [Decidable P] (h : bP P = 0) : ¬ P := fun q => by rw [bP_t q] at h; exact absurd h (by decide)
theorem bP_n {P : Prop} [Decidable P] (h : ¬ bP P = 0) : P := Decidable.byContradiction (fun q => h (bP_f q))
theorem lf_if {P : Prop} [Decidable P] {g : Sg} {Q : Int32 → Sg → Prop} (h : Q (bP P) g) : (P → Q 1 g) ∧ (¬ P → Q 0 g) := ⟨fun q => by rw [bP_t q] at h; exact h, fun q => by rw [bP_f q] at h; exact h⟩
theorem lf_ifn {P : Prop} [Decidable P] {g : Sg} {Q : Int32 → Sg → Prop} (h : Q (bP (¬ P)) g) : (P → Q 0 g) ∧ (¬ P → Q 1 g) := ⟨fun q => by rw [bP_f (fun z => z q)] at h; exact h, fun q => by rw [bP_t q] at h; exact h⟩
theorem lf_ifn2 {P : Prop} [Decidable P] {g : Sg} {Q : Int32 → Sg → Prop} (h : Q (bP (¬ P)) g) : (P → Q 0 g) ∧ (¬ P → Q 1 g) := lf_ifn h
theorem lf_within {x0 x1 x2 : Int32} {g : Sg} {Q : Int32 → Sg → Prop} (h : Q (bP (x1 ≤ x0 ∧ x0 ≤ x2)) g) : (x0 < x1 → Q 0 g) ∧ (¬ x0 < x1 → (x2 < x0 → Q 0 g) ∧ (¬ x2 < x0 → Q 1 g)) := by
  refine ⟨fun q => ?_, fun q => ⟨fun r => ?_, fun r => ?_⟩⟩
  · rw [bP_f (fun z => absurd q (Int32.not_lt.mpr z.1))] at h; exact h
  · rw [bP_f (fun z => absurd r (Int32.not_lt.mpr z.2))] at h; exact h
  · rw [bP_t ⟨Int32.not_lt.mp q, Int32.not_lt.mp r⟩] at h; exact h
theorem tb_and : ∀ (y : BitVec 32) (m : Nat), m < 32 → ((y &&& BitVec.twoPow 32 m) = 0#32 ↔ y.getLsbD m = false) := by
  intro y m hm
  rw [BitVec.and_twoPow]
  cases hb : y.getLsbD m with
  | false => simp
  | true =>
    simp
    intro h
    have := congrArg (fun z : BitVec 32 => z.getLsbD m) h
    simp [hm] at this
theorem sh_31 : ∀ n : Int32, ((n &&& 31).toBitVec.smod 32).toNat = n.toBitVec.toNat % 32 := by
  intro n
  have h1 : (n &&& 31).toBitVec = n.toBitVec &&& 31#32 := rfl
  rw [h1]
  have h2 : (n.toBitVec &&& 31#32).toNat = n.toBitVec.toNat % 32 := by
    rw [BitVec.toNat_and]
    exact Nat.and_two_pow_sub_one_eq_mod n.toBitVec.toNat 5
  have h3 : (n.toBitVec &&& 31#32).msb = false := by
    rw [BitVec.msb_eq_false_iff_two_mul_lt, h2]
    omega
  rw [BitVec.smod_eq, h3]
  show ((n.toBitVec &&& 31#32) % 32#32).toNat = _
  rw [BitVec.toNat_umod, h2]
  show n.toBitVec.toNat % 32 % 32 = _
  omega
theorem sb_bv (n : Int32) : (sb n).toBitVec = BitVec.twoPow 32 (n.toBitVec.toNat % 32) := by
  unfold sb
  rw [Int32.toBitVec_shiftLeft]
  show (1#32 <<< ((n &&& 31).toBitVec.smod 32).toNat) = _
  rw [sh_31, BitVec.twoPow_eq]
theorem tb_iff (x n : Int32) : (x &&& sb n) = 0 ↔ tbb x n = false := by
  rw [← Int32.toBitVec_inj, Int32.toBitVec_and, sb_bv]
  exact tb_and x.toBitVec _ (Nat.mod_lt _ (by decide))
theorem lf_hasBit {x0 x1 : Int32} {g : Sg} {Q : Int32 → Sg → Prop} (h : Q (bP (tbb x0 x1 = true)) g) : ((x0 &&& (1 <<< (x1 &&& 31))) = 0 → Q 0 g) ∧ (¬ (x0 &&& (1 <<< (x1 &&& 31))) = 0 → Q 1 g) := by
  refine ⟨fun q => ?_, fun q => ?_⟩
  · have := (tb_iff x0 x1).mp q
    rw [bP_f (by rw [this]; decide)] at h; exact h
  · have : tbb x0 x1 = true := by
      cases hb : tbb x0 x1 with
      | true => rfl
      | false => exact absurd ((tb_iff x0 x1).mpr hb) q
    rw [bP_t this] at h; exact h
theorem is_iff (x n : Int32) : ((x >>> (n &&& 31)) &&& 1) = 1 ↔ tbb x n = true := by
  have e : ((x >>> (n &&& 31)) &&& 1).toBitVec = x.toBitVec.sshiftRight (n.toBitVec.toNat % 32) &&& 1#32 := by
    rw [Int32.toBitVec_and, Int32.toBitVec_shiftRight]
    show x.toBitVec.sshiftRight ((n &&& 31).toBitVec.smod 32).toNat &&& 1#32 = _
    rw [sh_31]
  have hlt : n.toBitVec.toNat % 32 < 32 := Nat.mod_lt _ (by decide)
  have e2 : (x.toBitVec.sshiftRight (n.toBitVec.toNat % 32) &&& 1#32) = 1#32 ↔ (x.toBitVec.sshiftRight (n.toBitVec.toNat % 32)).getLsbD 0 = true := by
    have h1 : (1#32 : BitVec 32) = BitVec.twoPow 32 0 := rfl
    rw [h1, BitVec.and_twoPow]
    cases hb : (x.toBitVec.sshiftRight (n.toBitVec.toNat % 32)).getLsbD 0 with
    | true => simp
    | false =>
      simp
      decide
  rw [← Int32.toBitVec_inj, e]
  show (x.toBitVec.sshiftRight (n.toBitVec.toNat % 32) &&& 1#32) = 1#32 ↔ _
  rw [e2, BitVec.getLsbD_sshiftRight]
  simp [hlt, tbb, bt]
theorem lf_isIn {x0 x1 : Int32} {g : Sg} {Q : Int32 → Sg → Prop} (h : Q (bP (tbb x0 x1 = true)) g) : (((x0 >>> (x1 &&& 31)) &&& 1) = 1 → Q 1 g) ∧ (¬ ((x0 >>> (x1 &&& 31)) &&& 1) = 1 → Q 0 g) := by
  refine ⟨fun q => ?_, fun q => ?_⟩
  · rw [bP_t ((is_iff x0 x1).mp q)] at h; exact h
  · rw [bP_f (fun z => q ((is_iff x0 x1).mpr z))] at h; exact h
def nrw (f v : Int32) : Int32 := if f = 0 then v.toInt8.toInt32 else if f = 1 then v.toInt16.toInt32 else v
theorem lf_nrw {x0 x1 : Int32} {g : Sg} {Q : Int32 → Sg → Prop} (h : Q (nrw x0 x1) g) : (x0 = 0 → Q ((Int32.toInt8 x1).toInt32) g) ∧ (¬ x0 = 0 → (x0 = 1 → Q ((Int32.toInt16 x1).toInt32) g) ∧ (¬ x0 = 1 → Q x1 g)) := by
  unfold nrw at h
  refine ⟨fun q => ?_, fun q => ⟨fun r => ?_, fun r => ?_⟩⟩
  · rw [if_pos q] at h; exact h
  · rw [if_neg q, if_pos r] at h; exact h
  · rw [if_neg q, if_neg r] at h; exact h
theorem lf_in {x0 x2 x4 : Int64} {g : Sg} {Q : Int32 → Sg → Prop} (h : Q (bP (x2 ≤ x0 ∧ x0 ≤ x4)) g) : ((lg_cmp x0 x2) < 0 → Q 0 g) ∧ (¬ (lg_cmp x0 x2) < 0 → ((0 < (lg_cmp x0 x4) → Q 0 g) ∧ (¬ 0 < (lg_cmp x0 x4) → Q 1 g))) := by
  refine ⟨fun q => ?_, fun q => ⟨fun r => ?_, fun r => ?_⟩⟩
  · rw [bP_f (fun z => absurd q (Int32.not_lt.mpr ((lg_cmp_ge x0 x2).mpr z.1)))] at h; exact h
  · rw [bP_f (fun z => absurd r (Int32.not_lt.mpr ((lg_cmp_le x0 x4).mpr z.2)))] at h; exact h
  · rw [bP_t ⟨(lg_cmp_ge x0 x2).mp (Int32.not_lt.mp q), (lg_cmp_le x0 x4).mp (Int32.not_lt.mp r)⟩] at h; exact h
theorem l_le (a b : Int32) : a.toInt64 ≤ b.toInt64 ↔ a ≤ b := by
  rw [Int64.le_iff_toInt_le, Int32.le_iff_toInt_le, Int32.toInt_toInt64, Int32.toInt_toInt64]
theorem in32 {A B C : Int64} {a b c : Int32} (hA : A = a.toInt64) (hB : B = b.toInt64) (hC : C = c.toInt64) : bP (B ≤ A ∧ A ≤ C) = bP (b ≤ a ∧ a ≤ c) := by
  subst hA; subst hB; subst hC
  unfold bP
  simp only [l_le]
theorem lf_two {a b : Int32} {g : Sg} {Q : Int32 → Sg → Prop} (h : Q (bP (twoE a b)) g) : (isE a → (isE b → (a = b → Q 0 g) ∧ (¬ a = b → Q 1 g)) ∧ (¬ isE b → Q 0 g)) ∧ (¬ isE a → Q 0 g) := by
  refine ⟨fun q => ⟨fun r => ⟨fun t => ?_, fun t => ?_⟩, fun r => ?_⟩, fun q => ?_⟩
  · rw [bP_f (fun z => z.2.2 t)] at h; exact h
  · rw [bP_t ⟨q, r, t⟩] at h; exact h
  · rw [bP_f (fun z => r z.2.1)] at h; exact h
  · rw [bP_f (fun z => q z.1)] at h; exact h
theorem lf_or {P R S : Prop} [Decidable P] [Decidable R] (hs : S) {g : Sg} {Q : Int32 → Sg → Prop} (h : Q (bP (P ∨ R)) g) : (P → Q 1 g) ∧ (¬ P → S ∧ (R → Q 1 g) ∧ (¬ R → Q 0 g)) := by
  refine ⟨fun q => ?_, fun q => ⟨hs, fun r => ?_, fun r => ?_⟩⟩
  · rw [bP_t (Or.inl q)] at h; exact h
  · rw [bP_t (Or.inr r)] at h; exact h
  · rw [bP_f (fun z => z.elim q r)] at h; exact h
theorem tbf {b : Bool} (h : ¬ b = false) : b = true := by cases b <;> simp_all
theorem tbt {b : Bool} (h : ¬ b = true) : b = false := by cases b <;> simp_all
theorem tb_z {x n : Int32} (h : (x &&& sb n) = 0) : tbb x n = false := (tb_iff x n).mp h
theorem tb_o {x n : Int32} (h : ¬ (x &&& sb n) = 0) : tbb x n = true := tbf (fun q => h ((tb_iff x n).mpr q))
theorem lf_open {x n a b : Int32} {S : Prop} (hs : S) {g : Sg} {Q : Int32 → Sg → Prop} (h : Q (bP (tbb x n = false ∧ a < b)) g) : ((x &&& sb n) = 0 → S ∧ (b ≤ a → Q 0 g) ∧ (¬ b ≤ a → Q 1 g)) ∧ (¬ (x &&& sb n) = 0 → Q 0 g) := by
  refine ⟨fun q => ⟨hs, fun r => ?_, fun r => ?_⟩, fun q => ?_⟩
  · rw [bP_f (fun z => absurd z.2 (Int32.not_lt.mpr r))] at h; exact h
  · rw [bP_t ⟨tb_z q, Int32.not_le.mp r⟩] at h; exact h
  · rw [bP_f (fun z => by rw [tb_o q] at z; exact absurd z.1 (by decide))] at h; exact h
theorem lf_openM {x n a b : Int32} {S : Prop} (hs : S) {g : Sg} {Q : Int32 → Sg → Prop} (h : Q (bP (tbb x n = false ∧ a < b)) g) : (tbb x n = true → Q 0 g) ∧ (¬ tbb x n = true → S ∧ (b ≤ a → Q 0 g) ∧ (¬ b ≤ a → Q 1 g)) := by
  refine ⟨fun q => ?_, fun q => ⟨hs, fun r => ?_, fun r => ?_⟩⟩
  · rw [bP_f (fun z => by rw [q] at z; exact absurd z.1 (by decide))] at h; exact h
  · rw [bP_f (fun z => absurd z.2 (Int32.not_lt.mpr r))] at h; exact h
  · rw [bP_t ⟨tbt q, Int32.not_le.mp r⟩] at h; exact h
theorem lf_pof {x n v : Int32} {S : Prop} (hs : S) {g : Sg} {Q : Int32 → Sg → Prop} (h : Q (if tbb x n = true then v else 0) g) : ((x &&& sb n) = 0 → Q 0 g) ∧ (¬ (x &&& sb n) = 0 → S ∧ Q v g) := by
  refine ⟨fun q => ?_, fun q => ⟨hs, ?_⟩⟩
  · rw [if_neg (by rw [tb_z q]; decide)] at h; exact h
  · rw [if_pos (tb_o q)] at h; exact h
theorem lf_pofM {x n v : Int32} {S : Prop} (hs : S) {g : Sg} {Q : Int32 → Sg → Prop} (h : Q (if tbb x n = true then v else 0) g) : (tbb x n = true → S ∧ Q v g) ∧ (¬ tbb x n = true → Q 0 g) := by
  refine ⟨fun q => ⟨hs, ?_⟩, fun q => ?_⟩
  · rw [if_pos q] at h; exact h
  · rw [if_neg q] at h; exact h
theorem lf_joined {P R : Prop} [Decidable P] [Decidable R] {v : Int32} {g : Sg} {Q : Int32 → Sg → Prop} (h : Q (if P ∨ R then v else 0) g) : (P → Q v g) ∧ (¬ P → (R → Q v g) ∧ (¬ R → Q 0 g)) := by
  refine ⟨fun q => ?_, fun q => ⟨fun r => ?_, fun r => ?_⟩⟩
  · rw [if_pos (Or.inl q)] at h; exact h
  · rw [if_pos (Or.inr r)] at h; exact h
  · rw [if_neg (fun z => z.elim q r)] at h; exact h
def mOth (g : Sg) (p e : Int32) : Int32 := if g 40 (4 * p).toNatClampNeg = e then g 40 (4 * p + 1).toNatClampNeg else if g 40 (4 * p + 1).toNatClampNeg = e then g 40 (4 * p).toNatClampNeg else (-1)
theorem lf_oth {p e : Int32} {S T : Prop} (hs : S) (ht : T) {g : Sg} {Q : Int32 → Sg → Prop} (h : Q (mOth g p e) g) : S ∧ (g 40 (4 * p).toNatClampNeg = e → T ∧ Q (g 40 (4 * p + 1).toNatClampNeg) g) ∧ (¬ g 40 (4 * p).toNatClampNeg = e → T ∧ (g 40 (4 * p + 1).toNatClampNeg = e → S ∧ Q (g 40 (4 * p).toNatClampNeg) g) ∧ (¬ g 40 (4 * p + 1).toNatClampNeg = e → Q (-1) g)) := by
  unfold mOth at h
  refine ⟨hs, fun q => ⟨ht, ?_⟩, fun q => ⟨ht, fun r => ⟨hs, ?_⟩, fun r => ?_⟩⟩
  · rw [if_pos q] at h; exact h
  · rw [if_neg q, if_pos r] at h; exact h
  · rw [if_neg q, if_neg r] at h; exact h
theorem lf_choice {b : Bool} {R S : Prop} [Decidable R] (hs : S) {g : Sg} {Q : Int32 → Sg → Prop} (h : Q (bP (b = false ∧ R)) g) : (b = true → Q 0 g) ∧ (¬ b = true → S ∧ (R → Q 1 g) ∧ (¬ R → Q 0 g)) := by
  refine ⟨fun q => ?_, fun q => ⟨hs, fun r => ?_, fun r => ?_⟩⟩
  · rw [bP_f (fun z => by rw [q] at z; exact absurd z.1 (by decide))] at h; exact h
  · rw [bP_t ⟨tbt q, r⟩] at h; exact h
  · rw [bP_f (fun z => r z.2)] at h; exact h
