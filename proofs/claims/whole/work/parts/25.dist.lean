/-! distances in a net of at most 8 ends -/
abbrev Net : Type := Nat × (Nat → Nat × Nat × Nat × Nat)
abbrev nA (N : Net) (p : Nat) : Nat := (N.2 p).1
abbrev nB (N : Net) (p : Nat) : Nat := (N.2 p).2.1
abbrev nL (N : Net) (p : Nat) : Nat := (N.2 p).2.2.1
abbrev nD (N : Net) (p : Nat) : Nat := (N.2 p).2.2.2
def netOK (N : Net) : Prop := N.1 ≤ 16 ∧ ∀ p, p < N.1 → nA N p < 8 ∧ nB N p < 8 ∧ nA N p ≠ nB N p ∧ 1 ≤ nL N p ∧ nL N p ≤ 9 ∧ nD N p ≤ 9
def tch (N : Net) (p e : Nat) : Prop := nA N p = e ∨ nB N p = e
def opp (N : Net) (p e : Nat) : Nat := if nA N p = e then nB N p else nA N p
def stb (N : Net) (d : Nat → Nat) (p : Nat) : Prop := d (nA N p) ≤ d (nB N p) + nL N p ∧ d (nB N p) ≤ d (nA N p) + nL N p
def IsD (N : Net) (O : Nat → Bool) (t F : Nat) (d : Nat → Nat) : Prop :=
  d t = 0 ∧ (∀ v, v < 8 → d v ≤ F) ∧ (∀ p, p < N.1 → O p = true → stb N d p) ∧ (∀ v, v < 8 → d v < F → v ≠ t → ∃ p, p < N.1 ∧ O p = true ∧ tch N p v ∧ d (opp N p v) + nL N p = d v)
def s8 (f : Nat → Nat) : Nat := f 0 + f 1 + f 2 + f 3 + f 4 + f 5 + f 6 + f 7
theorem lt8 {P : Nat → Prop} (h : ∀ v, v < 8 → P v) : P 0 ∧ P 1 ∧ P 2 ∧ P 3 ∧ P 4 ∧ P 5 ∧ P 6 ∧ P 7 := ⟨h 0 (by omega), h 1 (by omega), h 2 (by omega), h 3 (by omega), h 4 (by omega), h 5 (by omega), h 6 (by omega), h 7 (by omega)⟩
theorem c8 {u : Nat} (h : u < 8) : u = 0 ∨ u = 1 ∨ u = 2 ∨ u = 3 ∨ u = 4 ∨ u = 5 ∨ u = 6 ∨ u = 7 := by omega
theorem s8_le {f h : Nat → Nat} (hle : ∀ v, v < 8 → f v ≤ h v) : s8 f ≤ s8 h := by
  obtain ⟨h0, h1, h2, h3, h4, h5, h6, h7⟩ := lt8 hle
  unfold s8
  omega
theorem s8_lt {f h : Nat → Nat} (hle : ∀ v, v < 8 → f v ≤ h v) {u : Nat} (hu : u < 8) (hlt : f u < h u) : s8 f < s8 h := by
  obtain ⟨h0, h1, h2, h3, h4, h5, h6, h7⟩ := lt8 hle
  unfold s8
  rcases c8 hu with rfl | rfl | rfl | rfl | rfl | rfl | rfl | rfl <;> omega
theorem s8_0 {f : Nat → Nat} (h : s8 f = 0) : ∀ v, v < 8 → f v = 0 := by
  intro v hv
  unfold s8 at h
  rcases c8 hv with rfl | rfl | rfl | rfl | rfl | rfl | rfl | rfl <;> omega
def updN (f : Nat → Nat) (k x : Nat) : Nat → Nat := fun j => if j = k then x else f j
theorem opp_ne {N : Net} (hN : netOK N) {p v : Nat} (hp : p < N.1) : opp N p v ≠ v := by
  obtain ⟨-, -, h3, -⟩ := hN.2 p hp
  unfold opp
  split
  · rename_i h; intro q; exact h3 (by rw [h, q])
  · assumption
theorem opp_lt {N : Net} (hN : netOK N) {p : Nat} (v : Nat) (hp : p < N.1) : opp N p v < 8 := by
  obtain ⟨h1, h2, -⟩ := hN.2 p hp
  unfold opp
  split <;> assumption
theorem opp_stb {N : Net} {d : Nat → Nat} {p v : Nat} (h : stb N d p) (ht : tch N p v) : d v ≤ d (opp N p v) + nL N p := by
  unfold opp
  rcases ht with q | q
  · rw [if_pos q, ← q]; exact h.1
  · split
    · rename_i h2; rw [← h2]; exact h.1
    · rw [← q]; exact h.2
/-- there is such a distance -/
theorem IsD.ex {N : Net} (hN : netOK N) (O : Nat → Bool) {t F : Nat} (ht : t < 8) (hF : 0 < F) : ∃ d, IsD N O t F d := by
  have key : ∀ (n : Nat) (d : Nat → Nat), s8 d ≤ n → d t = 0 → (∀ v, v < 8 → d v ≤ F) → (∀ v, v < 8 → d v < F → v ≠ t → ∃ p, p < N.1 ∧ O p = true ∧ tch N p v ∧ d (opp N p v) + nL N p ≤ d v) → ∃ d, IsD N O t F d := by
    intro n
    induction n with
    | zero =>
      intro d h0 h1 h2 h3
      have hz := s8_0 (Nat.le_zero.mp h0)
      refine ⟨d, h1, h2, fun p hp _ => ?_, fun v hv hlt hne => ?_⟩
      · obtain ⟨a1, a2, -⟩ := hN.2 p hp
        unfold stb
        rw [hz _ a1, hz _ a2]; omega
      · obtain ⟨p, b1, b2, b3, b4⟩ := h3 v hv hlt hne
        obtain ⟨-, -, -, a4, -⟩ := hN.2 p b1
        have := hz v hv
        omega
    | succ n ih =>
      intro d h0 h1 h2 h3
      by_cases hs : ∀ p, p < N.1 → O p = true → stb N d p
      · refine ⟨d, h1, h2, hs, fun v hv hlt hne => ?_⟩
        obtain ⟨p, b1, b2, b3, b4⟩ := h3 v hv hlt hne
        exact ⟨p, b1, b2, b3, Nat.le_antisymm b4 (opp_stb (hs p b1 b2) b3)⟩
      · obtain ⟨p, hs⟩ := Classical.not_forall.mp hs
        obtain ⟨hp, hs⟩ := Classical.not_imp.mp hs
        obtain ⟨hO, hs⟩ := Classical.not_imp.mp hs
        obtain ⟨a1, a2, a3, a4, -⟩ := hN.2 p hp
        have hv : ∃ v, v < 8 ∧ tch N p v ∧ d (opp N p v) + nL N p < d v := by
          unfold stb at hs
          rcases Classical.not_and_iff_not_or_not.mp hs with h | h
          · exact ⟨nA N p, a1, Or.inl rfl, by unfold opp; rw [if_pos rfl]; omega⟩
          · exact ⟨nB N p, a2, Or.inr rfl, by unfold opp; rw [if_neg a3]; omega⟩
        obtain ⟨v, hv8, htc, hlt⟩ := hv
        have hvt : v ≠ t := fun q => by rw [q, h1] at hlt; omega
        have ho : opp N p v ≠ v := opp_ne hN hp
        refine ih (updN d v (d (opp N p v) + nL N p)) ?_ ?_ ?_ ?_
        · have : s8 (updN d v (d (opp N p v) + nL N p)) < s8 d := by
            refine s8_lt (fun w _ => ?_) hv8 ?_
            · unfold updN
              split
              · rename_i hh; rw [hh]; omega
              · omega
            · unfold updN; rw [if_pos rfl]; exact hlt
          omega
        · unfold updN; rw [if_neg (Ne.symm hvt)]; exact h1
        · intro w hw
          unfold updN
          split
          · have := h2 v hv8; omega
          · exact h2 w hw
        · intro w hw hwF hwt
          by_cases e : w = v
          · subst e
            refine ⟨p, hp, hO, htc, ?_⟩
            unfold updN
            rw [if_neg ho, if_pos rfl]; omega
          · have e1 : updN d v (d (opp N p v) + nL N p) w = d w := by simp [updN, e]
            rw [e1] at hwF ⊢
            obtain ⟨q, b1, b2, b3, b4⟩ := h3 w hw hwF hwt
            refine ⟨q, b1, b2, b3, ?_⟩
            have : updN d v (d (opp N p v) + nL N p) (opp N q w) ≤ d (opp N q w) := by
              unfold updN
              split
              · rename_i hh; rw [hh]; omega
              · omega
            omega
  refine key _ (fun v => if v = t then 0 else F) (Nat.le_refl _) (by simp) (fun v _ => by (try dsimp only); split <;> omega) (fun v hv hlt hne => ?_)
  simp [hne] at hlt
/-- how many ends are nearer -/
def rk (d : Nat → Nat) (v : Nat) : Nat := s8 (fun w => if d w < d v then 1 else 0)
theorem rk_lt {d : Nat → Nat} {u v : Nat} (hu : u < 8) (h : d u < d v) : rk d u < rk d v := by
  refine s8_lt (fun w _ => ?_) hu (by simp [h])
  by_cases h1 : d w < d u
  · simp [h1, show d w < d v by omega]
  · simp [h1]
theorem rk_7 {d : Nat → Nat} {v : Nat} (hv : v < 8) : rk d v ≤ 7 := by
  have h1 : s8 (fun w => if d w < d v then 1 else 0) < s8 (fun _ => 1) := by
    refine s8_lt (fun w _ => ?_) hv ?_
    · split <;> omega
    · simp
  have h3 : rk d v = s8 (fun w => if d w < d v then 1 else 0) := rfl
  have h2 : s8 (fun _ => 1) = 8 := rfl
  omega
theorem IsD.bd {N : Net} (hN : netOK N) {O : Nat → Bool} {t F : Nat} {d : Nat → Nat} (h : IsD N O t F d) : ∀ (n v : Nat), v < 8 → d v ≤ n → d v < F → d v ≤ 9 * rk d v := by
  intro n
  induction n with
  | zero => intro v _ h0 _; omega
  | succ n ih =>
    intro v hv h0 hF
    by_cases e : v = t
    · rw [e, h.1]; omega
    · obtain ⟨p, b1, b2, b3, b4⟩ := h.2.2.2 v hv hF e
      obtain ⟨-, -, -, a4, a5, -⟩ := hN.2 p b1
      have hu := opp_lt hN v b1
      have h1 := ih _ hu (by omega) (by omega)
      have h2 := rk_lt (d := d) (u := opp N p v) (v := v) hu (by omega)
      omega
theorem IsD.b63 {N : Net} (hN : netOK N) {O : Nat → Bool} {t F : Nat} {d : Nat → Nat} (h : IsD N O t F d) {v : Nat} (hv : v < 8) (hF : d v < F) : d v ≤ 63 := by
  have h1 := h.bd hN _ v hv (Nat.le_refl _) hF
  have h2 := rk_7 (d := d) hv
  omega
theorem IsD.low {N : Net} (hN : netOK N) {O : Nat → Bool} {t F : Nat} {d e : Nat → Nat} (h : IsD N O t F d) (h0 : e t = 0) (hs : ∀ p, p < N.1 → O p = true → stb N e p) : ∀ (n v : Nat), v < 8 → d v ≤ n → d v < F → e v ≤ d v := by
  intro n
  induction n with
  | zero =>
    intro v hv h1 hF
    by_cases q : v = t
    · rw [q, h0]; omega
    · obtain ⟨p, b1, b2, b3, b4⟩ := h.2.2.2 v hv hF q
      obtain ⟨-, -, -, a4, -⟩ := hN.2 p b1
      omega
  | succ n ih =>
    intro v hv h1 hF
    by_cases q : v = t
    · rw [q, h0]; omega
    · obtain ⟨p, b1, b2, b3, b4⟩ := h.2.2.2 v hv hF q
      obtain ⟨-, -, -, a4, -⟩ := hN.2 p b1
      have h3 := ih _ (opp_lt hN v b1) (by omega) (by omega)
      have h4 := opp_stb (hs p b1 b2) b3
      omega
/-- the distance is one -/
theorem IsD.eq {N : Net} (hN : netOK N) {O : Nat → Bool} {t F G : Nat} {d e : Nat → Nat} (h : IsD N O t F d) (h' : IsD N O t G e) (hF : 63 < F) (hG : 63 < G) {v : Nat} (hv : v < 8) : (d v < F ↔ e v < G) ∧ (d v < F → d v = e v) := by
  have a1 : d v < F → e v ≤ d v := h.low hN h'.1 h'.2.2.1 _ v hv (Nat.le_refl _)
  have a2 : e v < G → d v ≤ e v := h'.low hN h.1 h.2.2.1 _ v hv (Nat.le_refl _)
  have b1 : d v < F → d v ≤ 63 := h.b63 hN hv
  have b2 : e v < G → e v ≤ 63 := h'.b63 hN hv
  constructor
  · constructor <;> intro q
    · have := a1 q; have := b1 q; omega
    · have := a2 q; have := b2 q; omega
  · intro q
    have := a1 q; have := b1 q
    have := a2 (by omega)
    omega
/-! rounds of shortening -/
def RI8 (N : Net) (O : Nat → Bool) (D d0 d : Nat → Nat) (p : Nat) : Prop :=
  (∀ v, v < 8 → d v ≤ d0 v) ∧ (∀ v, v < 8 → D v ≤ d v) ∧ ∀ q, q < p → O q = true → d (nB N q) ≤ d0 (nA N q) + nL N q ∧ d (nA N q) ≤ d0 (nB N q) + nL N q
def un (D d : Nat → Nat) : Nat := s8 (fun v => if d v = D v then 0 else 1)
theorem un_0 {D d : Nat → Nat} (h : un D d = 0) : ∀ v, v < 8 → d v = D v := by
  intro v hv
  have := s8_0 h v hv
  try dsimp only at this
  split at this
  · assumption
  · omega
theorem un_7 {D d : Nat → Nat} {t : Nat} (ht : t < 8) (h : d t = D t) : un D d ≤ 7 := by
  have h1 : s8 (fun v => if d v = D v then 0 else 1) < s8 (fun _ => 1) := by
    refine s8_lt (fun w _ => ?_) ht ?_
    · split <;> omega
    · simp [h]
  have h3 : un D d = s8 (fun v => if d v = D v then 0 else 1) := rfl
  have h2 : s8 (fun _ => 1) = 8 := rfl
  omega
theorem un_le {D d0 d : Nat → Nat} (h1 : ∀ v, v < 8 → d v ≤ d0 v) (h2 : ∀ v, v < 8 → D v ≤ d v) : un D d ≤ un D d0 := by
  refine s8_le (fun v hv => ?_)
  try dsimp only
  have := h1 v hv
  have := h2 v hv
  by_cases h : d0 v = D v
  · rw [if_pos h, if_pos (by omega)]; omega
  · rw [if_neg h]; split <;> omega
theorem least8 (P : Nat → Prop) (f : Nat → Nat) (h : ∃ v, v < 8 ∧ P v) : ∃ v, v < 8 ∧ P v ∧ ∀ w, w < 8 → P w → f v ≤ f w := by
  have key : ∀ n v, v < 8 → P v → f v ≤ n → ∃ v, v < 8 ∧ P v ∧ ∀ w, w < 8 → P w → f v ≤ f w := by
    intro n
    induction n with
    | zero => intro v hv hp h0; exact ⟨v, hv, hp, fun w _ _ => by omega⟩
    | succ n ih =>
      intro v hv hp h0
      by_cases q : ∃ w, w < 8 ∧ P w ∧ f w < f v
      · obtain ⟨w, hw, hpw, hlt⟩ := q
        exact ih w hw hpw (by omega)
      · refine ⟨v, hv, hp, fun w hw hpw => ?_⟩
        rcases Nat.lt_or_ge (f w) (f v) with z | z
        · exact absurd ⟨w, hw, hpw, z⟩ q
        · exact z
  obtain ⟨v, hv, hp⟩ := h
  exact key _ v hv hp (Nat.le_refl _)
theorem round_un {N : Net} (hN : netOK N) {O : Nat → Bool} {t F : Nat} {D d0 d : Nat → Nat} (hD : IsD N O t F D) (ht : t < 8) (h0t : d0 t = 0) (h0F : ∀ v, v < 8 → d0 v ≤ F) (h0D : ∀ v, v < 8 → D v ≤ d0 v) (hR : RI8 N O D d0 d N.1) : un D d0 = 0 ∨ un D d < un D d0 := by
  by_cases hz : ∃ v, v < 8 ∧ d0 v ≠ D v
  · right
    obtain ⟨v, hv, hne, hmin⟩ := least8 (fun v => d0 v ≠ D v) D hz
    have h1 := h0D v hv
    have h2 := h0F v hv
    have hvt : v ≠ t := fun q => hne (by rw [q, h0t, hD.1])
    obtain ⟨p, b1, b2, b3, b4⟩ := hD.2.2.2 v hv (by omega) hvt
    obtain ⟨a1, a2, a3, a4, -⟩ := hN.2 p b1
    have hu := opp_lt hN v b1
    have hset : d0 (opp N p v) = D (opp N p v) := Classical.byContradiction (fun q => by have := hmin _ hu q; omega)
    have hrel : d v ≤ d0 (opp N p v) + nL N p := by
      obtain ⟨c1, c2⟩ := hR.2.2 p b1 b2
      unfold opp
      rcases b3 with q | q
      · rw [if_pos q, ← q]; exact c2
      · split
        · rename_i z; rw [← z]; exact c2
        · rw [← q]; exact c1
    have h3 := hR.2.1 v hv
    refine s8_lt (fun w hw => ?_) hv ?_
    · try dsimp only
      have := hR.1 w hw
      have := hR.2.1 w hw
      by_cases h : d0 w = D w
      · rw [if_pos h, if_pos (by omega)]; omega
      · rw [if_neg h]; split <;> omega
    · try dsimp only
      rw [if_pos (by omega), if_neg hne]; omega
  · left
    have : ∀ v, v < 8 → d0 v = D v := fun v hv => Classical.byContradiction (fun q => hz ⟨v, hv, q⟩)
    obtain ⟨e0, e1, e2, e3, e4, e5, e6, e7⟩ := lt8 this
    simp [un, s8, e0, e1, e2, e3, e4, e5, e6, e7]
/-- a round that changed nothing -/
theorem still_eq {N : Net} (hN : netOK N) {O : Nat → Bool} {t F : Nat} {D d : Nat → Nat} (hD : IsD N O t F D) (h0 : d t = 0) (hF : ∀ v, v < 8 → d v ≤ F) (hDd : ∀ v, v < 8 → D v ≤ d v) (hs : ∀ p, p < N.1 → O p = true → stb N d p) : ∀ v, v < 8 → d v = D v := by
  intro v hv
  have h1 := hDd v hv
  have h2 := hF v hv
  rcases Nat.lt_or_ge (D v) F with q | q
  · have := hD.low hN h0 hs _ v hv (Nat.le_refl _) q
    omega
  · have := hD.2.1 v hv
    omega
