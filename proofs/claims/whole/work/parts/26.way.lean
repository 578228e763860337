/-! the way: the shortest one, of like ones the least row -/
theorem tbb_n (x : Int32) {k : Nat} (h : k < 32) : tbb x (nI k) = bt x k := by
  unfold tbb
  rw [pk_tn (by omega), Nat.mod_eq_of_lt h]
def onw (N : Net) (O : Nat → Bool) (d : Nat → Nat) (e p : Nat) : Prop := O p = true ∧ tch N p e ∧ d (opp N p e) + nL N p = d e
noncomputable def nxt (N : Net) (O : Nat → Bool) (d : Nat → Nat) (e : Nat) : Option Nat := by
  classical exact (List.range N.1).find? (fun p => decide (onw N O d e p))
theorem nxt_some {N : Net} {O : Nat → Bool} {d : Nat → Nat} {e p : Nat} (hp : p < N.1) (ho : onw N O d e p) (hq : ∀ q, q < p → ¬ onw N O d e q) : nxt N O d e = some p := by
  classical
  unfold nxt
  rw [List.find?_range_eq_some]
  exact ⟨by simpa using ho, List.mem_range.mpr hp, fun q hqp => by simpa using hq q hqp⟩
theorem nxt_ex {N : Net} {O : Nat → Bool} {d : Nat → Nat} {e : Nat} (h : ∃ p, p < N.1 ∧ onw N O d e p) : ∃ p, p < N.1 ∧ onw N O d e p ∧ (∀ q, q < p → ¬ onw N O d e q) ∧ nxt N O d e = some p := by
  obtain ⟨p, ⟨h1, h2⟩, h3⟩ := pk_least (fun p => p < N.1 ∧ onw N O d e p) h
  have h4 : ∀ q, q < p → ¬ onw N O d e q := fun q hq ho => h3 q hq ⟨by omega, ho⟩
  exact ⟨p, h1, h2, h4, nxt_some h1 h2 h4⟩
noncomputable def wrow (N : Net) (O : Nat → Bool) (d : Nat → Nat) (t : Nat) : Nat → Nat → List Nat
  | 0, _ => []
  | n + 1, e => if e = t then [] else (nxt N O d e).elim [] (fun p => p :: wrow N O d t n (opp N p e))
section Wr
variable {N : Net} (hN : netOK N) {O : Nat → Bool} {t F : Nat} {d : Nat → Nat} (hD : IsD N O t F d)
theorem onw_ex (hN : netOK N) (hD : IsD N O t F d) {e : Nat} (he : e < 8) (hF : d e < F) (ht : e ≠ t) : ∃ p, p < N.1 ∧ onw N O d e p ∧ (∀ q, q < p → ¬ onw N O d e q) ∧ nxt N O d e = some p ∧ opp N p e < 8 ∧ d (opp N p e) < d e ∧ rk d (opp N p e) < rk d e := by
  obtain ⟨p, b1, b2, b3, b4⟩ := hD.2.2.2 e he hF ht
  obtain ⟨q, c1, c2, c3, c4⟩ := nxt_ex ⟨p, b1, b2, b3, b4⟩
  have hu := opp_lt hN e c1
  obtain ⟨-, -, -, a4, -⟩ := hN.2 q c1
  have hlt : d (opp N q e) < d e := by have := c2.2.2; omega
  exact ⟨q, c1, c2, c3, c4, hu, hlt, rk_lt hu hlt⟩
theorem wrow_t (n : Nat) : wrow N O d t n t = [] := by
  cases n with
  | zero => rfl
  | succ n => simp [wrow]
theorem wrow_fuel (hN : netOK N) (hD : IsD N O t F d) : ∀ (k n m e : Nat), e < 8 → d e < F → rk d e ≤ k → k ≤ n → k ≤ m → wrow N O d t n e = wrow N O d t m e := by
  intro k
  induction k with
  | zero =>
    intro n m e he hF hk _ _
    by_cases ht : e = t
    · subst ht; rw [wrow_t, wrow_t]
    · obtain ⟨p, -, -, -, -, -, -, h⟩ := onw_ex hN hD he hF ht
      omega
  | succ k ih =>
    intro n m e he hF hk hn hm
    by_cases ht : e = t
    · subst ht; rw [wrow_t, wrow_t]
    · obtain ⟨p, -, -, -, h4, h5, h6, h7⟩ := onw_ex hN hD he hF ht
      obtain ⟨n', rfl⟩ : ∃ n', n = n' + 1 := ⟨n - 1, by omega⟩
      obtain ⟨m', rfl⟩ : ∃ m', m = m' + 1 := ⟨m - 1, by omega⟩
      simp only [wrow, ht, if_false, h4, Option.elim]
      rw [ih n' m' _ h5 (by omega) (by omega) (by omega) (by omega)]
theorem wrow_cons (hN : netOK N) (hD : IsD N O t F d) {e : Nat} (he : e < 8) (hF : d e < F) (ht : e ≠ t) {p : Nat} (hp : nxt N O d e = some p) : wrow N O d t 8 e = p :: wrow N O d t 8 (opp N p e) := by
  obtain ⟨q, -, -, -, h4, h5, h6, h7⟩ := onw_ex hN hD he hF ht
  have hqp : q = p := Option.some.inj (h4.symm.trans hp)
  rw [← hqp]
  have e1 : wrow N O d t 8 e = q :: wrow N O d t 7 (opp N q e) := by
    show (if e = t then [] else (nxt N O d e).elim [] (fun p => p :: wrow N O d t 7 (opp N p e))) = _
    rw [if_neg ht, h4]; rfl
  have h8 := rk_7 (d := d) he
  rw [e1, wrow_fuel hN hD 7 7 8 _ h5 (by omega) (by omega) (by omega) (by omega)]
/-- what holds of the row -/
theorem wrow_ok (hN : netOK N) (hD : IsD N O t F d) : ∀ (k e : Nat), e < 8 → d e < F → rk d e ≤ k → (wrow N O d t 8 e).length ≤ k ∧ (∀ p ∈ wrow N O d t 8 e, p < N.1 ∧ O p = true) ∧ ((wrow N O d t 8 e).map (nL N)).sum = d e ∧ (wrow N O d t 8 e = [] → e = t) := by
  intro k
  induction k with
  | zero =>
    intro e he hF hk
    by_cases ht : e = t
    · subst ht; rw [wrow_t]; simp [hD.1]
    · obtain ⟨p, -, -, -, -, -, -, h⟩ := onw_ex hN hD he hF ht
      omega
  | succ k ih =>
    intro e he hF hk
    by_cases ht : e = t
    · subst ht; rw [wrow_t]; simp [hD.1]
    · obtain ⟨p, h1, h2, -, h4, h5, h6, h7⟩ := onw_ex hN hD he hF ht
      rw [wrow_cons hN hD he hF ht h4]
      obtain ⟨i1, i2, i3, -⟩ := ih _ h5 (by omega) (by omega)
      refine ⟨by simp; omega, fun q hq => ?_, ?_, fun h => by cases h⟩
      · rcases List.mem_cons.mp hq with rfl | hq
        · exact ⟨h1, h2.1⟩
        · exact i2 q hq
      · rw [List.map_cons, List.sum_cons, i3]
        have := h2.2.2
        omega
/-- each pipe but once: the distances fall along the row -/
theorem wrow_nd (hN : netOK N) (hD : IsD N O t F d) : ∀ (k e : Nat), e < 8 → d e < F → rk d e ≤ k → (wrow N O d t 8 e).Nodup ∧ ∀ p ∈ wrow N O d t 8 e, d (nA N p) ≤ d e ∧ d (nB N p) ≤ d e := by
  intro k
  induction k with
  | zero =>
    intro e he hF hk
    by_cases ht : e = t
    · subst ht; rw [wrow_t]; simp
    · obtain ⟨p, -, -, -, -, -, -, h⟩ := onw_ex hN hD he hF ht
      omega
  | succ k ih =>
    intro e he hF hk
    by_cases ht : e = t
    · subst ht; rw [wrow_t]; simp
    · obtain ⟨p, h1, h2, -, h4, h5, h6, h7⟩ := onw_ex hN hD he hF ht
      rw [wrow_cons hN hD he hF ht h4]
      obtain ⟨i1, i2⟩ := ih _ h5 (by omega) (by omega)
      have hAB : d (nA N p) ≤ d e ∧ d (nB N p) ≤ d e ∧ (d (nA N p) = d e ∨ d (nB N p) = d e) := by
        have h8 : d (opp N p e) < d e := h6
        unfold opp at h8
        rcases h2.2.1 with q | q
        · rw [if_pos q] at h8; rw [q]; omega
        · split at h8
          · rename_i z; rw [z]; omega
          · rw [q]; omega
      refine ⟨List.nodup_cons.mpr ⟨fun hm => ?_, i1⟩, fun q hq => ?_⟩
      · have := i2 p hm
        omega
      · rcases List.mem_cons.mp hq with rfl | hq
        · exact ⟨hAB.1, hAB.2.1⟩
        · have := i2 q hq
          omega
end Wr
/-- two distances of one net have one row -/
theorem wrow_eq {N : Net} (hN : netOK N) {O : Nat → Bool} {t F G : Nat} {d e : Nat → Nat} (h : IsD N O t F d) (h' : IsD N O t G e) (hF : 63 < F) (hG : 63 < G) : ∀ (n v : Nat), v < 8 → d v < F → wrow N O d t n v = wrow N O e t n v := by
  intro n
  induction n with
  | zero => intro v _ _; rfl
  | succ n ih =>
    intro v hv hlt
    by_cases ht : v = t
    · subst ht; rw [wrow_t, wrow_t]
    · obtain ⟨q1, q2⟩ := h.eq hN h' hF hG hv
      obtain ⟨p, h1, h2, h3, h4, h5, h6, -⟩ := onw_ex hN h hv hlt ht
      have key : ∀ q, q < N.1 → (onw N O d v q ↔ onw N O e v q) := by
        intro q hq
        obtain ⟨r1, r2⟩ := h.eq hN h' hF hG (opp_lt hN v hq)
        have b1 := h.b63 hN hv hlt
        have q3 := q2 hlt
        constructor
        · intro ho
          refine ⟨ho.1, ho.2.1, ?_⟩
          have := ho.2.2
          rw [← r2 (by omega), ← q3]; exact this
        · intro ho
          refine ⟨ho.1, ho.2.1, ?_⟩
          have h8 := ho.2.2
          have h9 : e (opp N q v) < G := by
            have := q1.mp hlt
            omega
          rw [r2 (r1.mpr h9), q3]; exact h8
      have h4' : nxt N O e v = some p := nxt_some h1 ((key p h1).mp h2) (fun q hq ho => h3 q hq ((key q (by omega)).mpr ho))
      simp only [wrow, ht, if_false, h4, h4', Option.elim]
      rw [ih _ h5 (by omega)]
/-- the distance, and the way (none: the empty row) -/
noncomputable def dst (N : Net) (O : Nat → Bool) (t : Nat) : Nat → Nat := by
  classical exact (if h : ∃ d, IsD N O t 1000 d then Classical.choose h else fun _ => 0)
theorem dst_is {N : Net} (hN : netOK N) (O : Nat → Bool) {t : Nat} (ht : t < 8) : IsD N O t 1000 (dst N O t) := by
  have h : ∃ d, IsD N O t 1000 d := IsD.ex hN O ht (by omega)
  unfold dst
  rw [dif_pos h]
  exact Classical.choose_spec h
noncomputable def way (N : Net) (O : Nat → Bool) (a b : Nat) : List Nat := if dst N O b a < 1000 then wrow N O (dst N O b) b 8 a else []
/-- any distance gives the way -/
theorem way_of {N : Net} (hN : netOK N) {O : Nat → Bool} {a b F : Nat} (ha : a < 8) (hb : b < 8) {d : Nat → Nat} (h : IsD N O b F d) (hF : 63 < F) : way N O a b = (if d a < F then wrow N O d b 8 a else []) := by
  have hd := dst_is hN O hb
  obtain ⟨q1, q2⟩ := hd.eq hN h (by omega) hF ha
  unfold way
  by_cases hl : dst N O b a < 1000
  · rw [if_pos hl, if_pos (q1.mp hl), wrow_eq hN hd h (by omega) hF 8 a ha hl]
  · rw [if_neg hl, if_neg (fun q => hl (q1.mpr q))]
theorem way_ok {N : Net} (hN : netOK N) (O : Nat → Bool) {a b : Nat} (ha : a < 8) (hb : b < 8) : (way N O a b).length ≤ 7 ∧ (way N O a b).Nodup ∧ (∀ p ∈ way N O a b, p < N.1 ∧ O p = true) ∧ (dst N O b a < 1000 → ((way N O a b).map (nL N)).sum = dst N O b a ∧ (a ≠ b → way N O a b ≠ [])) ∧ (¬ dst N O b a < 1000 → way N O a b = []) := by
  have hd := dst_is hN O hb
  unfold way
  by_cases hl : dst N O b a < 1000
  · rw [if_pos hl]
    obtain ⟨h1, h2, h3, h4⟩ := wrow_ok hN hd 7 a ha hl (rk_7 ha)
    obtain ⟨h5, -⟩ := wrow_nd hN hd 7 a ha hl (rk_7 ha)
    exact ⟨h1, h5, h2, fun _ => ⟨h3, fun q z => q (h4 z)⟩, fun q => absurd hl q⟩
  · rw [if_neg hl]
    exact ⟨by simp, by simp, by simp, fun q => absurd q hl, fun _ => rfl⟩
