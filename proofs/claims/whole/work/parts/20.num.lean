/-! numbers -/
theorem litN (n : Nat) : (OfNat.ofNat n : Int32) = nI (OfNat.ofNat n) := rfl
theorem addL (a n : Nat) : nI a + (OfNat.ofNat n : Int32) = nI (a + OfNat.ofNat n) := nI_add a n
theorem addR (a n : Nat) : (OfNat.ofNat n : Int32) + nI a = nI (OfNat.ofNat n + a) := nI_add n a
theorem mulL (a n : Nat) : nI a * (OfNat.ofNat n : Int32) = nI (a * OfNat.ofNat n) := pk_mul a n
theorem mulR (a n : Nat) : (OfNat.ofNat n : Int32) * nI a = nI (OfNat.ofNat n * a) := pk_mul n a
theorem ltL {a n : Nat} (ha : a < 2 ^ 31) (hn : (OfNat.ofNat n : Nat) < 2 ^ 31) : nI a < (OfNat.ofNat n : Int32) ↔ a < OfNat.ofNat n := nI_ltI ha hn
theorem ltR {a n : Nat} (ha : a < 2 ^ 31) (hn : (OfNat.ofNat n : Nat) < 2 ^ 31) : (OfNat.ofNat n : Int32) < nI a ↔ OfNat.ofNat n < a := nI_ltI hn ha
theorem leL {a n : Nat} (ha : a < 2 ^ 31) (hn : (OfNat.ofNat n : Nat) < 2 ^ 31) : nI a ≤ (OfNat.ofNat n : Int32) ↔ a ≤ OfNat.ofNat n := nI_leI ha hn
theorem leR {a n : Nat} (ha : a < 2 ^ 31) (hn : (OfNat.ofNat n : Nat) < 2 ^ 31) : (OfNat.ofNat n : Int32) ≤ nI a ↔ OfNat.ofNat n ≤ a := nI_leI hn ha
theorem eqL {a n : Nat} (ha : a < 2 ^ 31) (hn : (OfNat.ofNat n : Nat) < 2 ^ 31) : nI a = (OfNat.ofNat n : Int32) ↔ a = OfNat.ofNat n := nI_eq ha hn
theorem eqR {a n : Nat} (ha : a < 2 ^ 31) (hn : (OfNat.ofNat n : Nat) < 2 ^ 31) : (OfNat.ofNat n : Int32) = nI a ↔ OfNat.ofNat n = a := nI_eq hn ha
theorem nI_m1 {a : Nat} (ha : a < 2 ^ 31) : ¬ nI a = -1 := fun h => by
  have h1 := nI_toInt ha
  rw [h] at h1
  have h2 : (-1 : Int32).toInt = -1 := by decide
  omega
theorem m1_nI {a : Nat} (ha : a < 2 ^ 31) : ¬ (-1 : Int32) = nI a := fun h => nI_m1 ha h.symm
theorem nI_subL {a n : Nat} (h : OfNat.ofNat n ≤ a) : nI a - (OfNat.ofNat n : Int32) = nI (a - OfNat.ofNat n) := pk_sub h
/-- a number between 0 and n -/
theorem rng {x : Int32} {n : Nat} (hn : n < 2 ^ 31) (h : 0 ≤ x ∧ x ≤ nI n) : ∃ k : Nat, k ≤ n ∧ x = nI k := nI_of2 (nI_toInt hn) (Int32.not_lt.mpr h.1) h.2
theorem rng' {k n : Nat} (hn : n < 2 ^ 31) (h : k ≤ n) : 0 ≤ nI k ∧ nI k ≤ nI n := ⟨nI_pos' (by omega), nI_le h hn⟩
theorem isS_of {x : Int32} (h : isS x) : ∃ k : Nat, k < 4 ∧ x = nI k := by
  obtain ⟨k, h1, h2⟩ := rng (n := 3) (by omega) h
  exact ⟨k, by omega, h2⟩
theorem isE_of {x : Int32} (h : isE x) : ∃ k : Nat, k < 8 ∧ x = nI k := by
  obtain ⟨k, h1, h2⟩ := rng (n := 7) (by omega) h
  exact ⟨k, by omega, h2⟩
theorem isW_of {x : Int32} (h : isW x) : ∃ k : Nat, k < 16 ∧ x = nI k := by
  obtain ⟨k, h1, h2⟩ := rng (n := 15) (by omega) h
  exact ⟨k, by omega, h2⟩
theorem isE_n {k : Nat} (h : k < 8) : isE (nI k) := rng' (n := 7) (by omega) (by omega)
theorem isW_n {k : Nat} (h : k < 16) : isW (nI k) := rng' (n := 15) (by omega) (by omega)
theorem isS_n {k : Nat} (h : k < 4) : isS (nI k) := rng' (n := 3) (by omega) (by omega)
theorem twoE_n {a b : Nat} (ha : a < 8) (hb : b < 8) (h : a ≠ b) : twoE (nI a) (nI b) := ⟨isE_n ha, isE_n hb, fun q => h ((nI_eq (by omega) (by omega)).mp q)⟩
theorem twoE_of {x y : Int32} (h : twoE x y) : ∃ a b : Nat, a < 8 ∧ b < 8 ∧ a ≠ b ∧ x = nI a ∧ y = nI b := by
  obtain ⟨h1, h2, h3⟩ := h
  obtain ⟨a, ha, rfl⟩ := isE_of h1
  obtain ⟨b, hb, rfl⟩ := isE_of h2
  exact ⟨a, b, ha, hb, fun q => h3 (by rw [q]), rfl, rfl⟩
theorem br1 {A B : Prop} (h : B) : ((1 : Int32) = 0 → A) ∧ (¬ (1 : Int32) = 0 → B) := ⟨fun q => absurd q (by decide), fun _ => h⟩
theorem br0 {A B : Prop} (h : A) : ((0 : Int32) = 0 → A) ∧ (¬ (0 : Int32) = 0 → B) := ⟨fun _ => h, fun q => absurd rfl q⟩
theorem brT {P A B : Prop} (p : P) (h : A) : (P → A) ∧ (¬ P → B) := ⟨fun _ => h, fun q => absurd p q⟩
theorem brF {P A B : Prop} (p : ¬ P) (h : B) : (P → A) ∧ (¬ P → B) := ⟨fun q => absurd q p, fun _ => h⟩
/-! the world: reads behind writes -/
theorem sg_s (g : Sg) (k j : Nat) (x : Int32) : sgU g k j x k j = x := by simp [sgU, upd]
theorem sg_k {g : Sg} {k j : Nat} {x : Int32} {k' j' : Nat} (h : k' ≠ k) : sgU g k j x k' j' = g k' j' := by simp [sgU, h]
theorem sg_j {g : Sg} {k j : Nat} {x : Int32} {j' : Nat} (h : j' ≠ j) : sgU g k j x k j' = g k j' := by simp [sgU, upd, h]
theorem sgC_s (g : Sg) (k : Nat) (f : Nat → Int32) : sgC g k f k = f := by simp [sgC]
theorem sgC_k {g : Sg} {k : Nat} {f : Nat → Int32} {k' : Nat} (h : k' ≠ k) : sgC g k f k' = g k' := by simp [sgC, h]
/-- outside S nothing has changed -/
def Kp (S : Nat → Nat → Bool) (g g' : Sg) : Prop := ∀ k j, S k j = false → g' k j = g k j
theorem Kp.rf (S : Nat → Nat → Bool) (g : Sg) : Kp S g g := fun _ _ _ => rfl
theorem Kp.tr {S : Nat → Nat → Bool} {g g1 g2 : Sg} (h1 : Kp S g g1) (h2 : Kp S g1 g2) : Kp S g g2 := fun k j h => (h2 k j h).trans (h1 k j h)
theorem Kp.le {S T : Nat → Nat → Bool} {g g1 : Sg} (h1 : Kp S g g1) (h : ∀ k j, T k j = false → S k j = false) : Kp T g g1 := fun k j hk => h1 k j (h k j hk)
theorem Kp.u {S : Nat → Nat → Bool} {g g1 : Sg} (h1 : Kp S g g1) {k j : Nat} {x : Int32} (h : S k j = true) : Kp S g (sgU g1 k j x) := fun k' j' hk => by
  by_cases e : k' = k
  · subst e
    by_cases e2 : j' = j
    · subst e2; rw [h] at hk; cases hk
    · rw [sg_j e2]; exact h1 _ _ hk
  · rw [sg_k e]; exact h1 _ _ hk
