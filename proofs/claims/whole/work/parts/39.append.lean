/-! the class: append, clear, dropPipe -/
def frT (g g' : Sg) : Prop := (∀ c, c ≠ 1 → c ≠ 2 → c ≠ 3 → c ≠ 4 → c ≠ 5 → c ≠ 6 → g' c = g c) ∧ ∀ j, j ≠ 5 → j ≠ 6 → j ≠ 7 → j ≠ 8 → g' 1 j = g 1 j
theorem TC.set {bv : Nat → Nat} {n : Nat} {g : Sg} (h5 : g 1 5 = nI n) (ht : ∀ i, i < n → g 2 i = nI (bv i)) (hb : ∀ i, i < n → bv i < 256) (hn : n ≤ 79) (h6 : g 1 6 = wr bv n)
    (ha : ∀ p, 5 * p + 3 < n → wr bv (5 * p + 4) = -1 → g 3 p = nI (bv (5 * p) - 97) ∧ g 4 p = nI (bv (5 * p + 1) - 97) ∧ g 5 p = nI (bv (5 * p + 2) - 48) ∧ g 6 p = nI (bv (5 * p + 3) - 48)) : TC bv n (sgU (sgU g 1 7 (flt bv n)) 1 8 (nI (mny bv n))) := by
  refine ⟨?_, fun i hi => ?_, hb, hn, ?_, ?_, ?_, fun p h1 h2 => ?_⟩
  · rw [sg_j (by decide), sg_j (by decide)]; exact h5
  · rw [sg_k (by decide), sg_k (by decide)]; exact ht i hi
  · rw [sg_j (by decide), sg_j (by decide)]; exact h6
  · rw [sg_j (by decide), sg_s]
  · rw [sg_s]
  · obtain ⟨d0, d1, d2, d3⟩ := ha p h1 h2
    exact ⟨by rw [sg_k (by decide), sg_k (by decide)]; exact d0, by rw [sg_k (by decide), sg_k (by decide)]; exact d1, by rw [sg_k (by decide), sg_k (by decide)]; exact d2, by rw [sg_k (by decide), sg_k (by decide)]; exact d3⟩
theorem frT.set {g g1 : Sg} (h : frT g g1) (x y : Int32) : frT g (sgU (sgU g1 1 7 x) 1 8 y) :=
  ⟨fun c c1 c2 c3 c4 c5 c6 => by funext j; rw [sg_k c1, sg_k c1, h.1 c c1 c2 c3 c4 c5 c6], fun j j5 j6 j7 j8 => by rw [sg_j j8, sg_j j7]; exact h.2 j j5 j6 j7 j8⟩
theorem Sp_append {bv : Nat → Nat} {n b : Nat} {g : Sg} {Q : Sg → Prop} (hT : TC bv n g) (hn : n < 79) (hb : b < 256) (hk : ∀ g', frT g g' → TC (updN bv n b) (n + 1) g' → Q g') : Cp_append (nI b) g Q := by
  obtain ⟨h5, ht, hby, -, h6, h7, h8, har⟩ := hT
  have hpre : ∀ i, i < n → updN bv n b i = bv i := fun i hi => by simp [updN, show i ≠ n by omega]
  have hnew : updN bv n b n = b := by simp [updN]
  have hwn : wr (updN bv n b) n = wr bv n := wr_cg n hpre
  have hby' : ∀ i, i < n + 1 → updN bv n b i < 256 := fun i hi => by
    by_cases hx : i = n
    · rw [hx, hnew]; exact hb
    · rw [hpre i (by omega)]; exact hby i (by omega)
  have htx : ∀ i, i ≤ n → sgU g 2 n (nI b) 2 i = nI (updN bv n b i) := fun i hi => by
    by_cases hx : i = n
    · rw [hx, sg_s, hnew]
    · rw [sg_j hx, hpre i (by omega)]; exact ht i (by omega)
  have hstep : wr (updN bv n b) (n + 1) = if wr bv n = -1 ∧ okb (updN bv n b) n = false then nI n else wr bv n := by rw [← hwn]; rfl
  -- the end, from a heap whose wrongAt is right and whose rows are
  have fin : ∀ g1, (∀ c, c ≠ 1 → c ≠ 2 → c ≠ 3 → c ≠ 4 → c ≠ 5 → c ≠ 6 → g1 c = g c) → (∀ j, j ≠ 5 → j ≠ 6 → j ≠ 7 → j ≠ 8 → g1 1 j = g 1 j) → g1 1 5 = nI (n + 1) → (∀ i, i ≤ n → g1 2 i = nI (updN bv n b i)) → g1 1 6 = wr (updN bv n b) (n + 1) →
      (∀ p, 5 * p + 3 < n + 1 → wr (updN bv n b) (5 * p + 4) = -1 → g1 3 p = nI (updN bv n b (5 * p) - 97) ∧ g1 4 p = nI (updN bv n b (5 * p + 1) - 97) ∧ g1 5 p = nI (updN bv n b (5 * p + 2) - 48) ∧ g1 6 p = nI (updN bv n b (5 * p + 3) - 48)) → Cp_settle g1 Q := by
    intro g1 f1 f2 e5 e2 e6 ea
    refine Sp_settle (bv := updN bv n b) (n := n + 1) (by omega) e5 e6 ?_
    exact hk _ (frT.set ⟨f1, f2⟩ _ _) (TC.set e5 (fun i hi => e2 i (by omega)) hby' (by omega) e6 ea)
  -- rows of pipes that were there before
  have old : ∀ p, 5 * p + 3 < n → wr (updN bv n b) (5 * p + 4) = -1 → g 3 p = nI (updN bv n b (5 * p) - 97) ∧ g 4 p = nI (updN bv n b (5 * p + 1) - 97) ∧ g 5 p = nI (updN bv n b (5 * p + 2) - 48) ∧ g 6 p = nI (updN bv n b (5 * p + 3) - 48) := by
    intro p hp hw
    rw [hpre _ (by omega), hpre _ (by omega), hpre _ (by omega), hpre _ (by omega)]
    refine har p hp ?_
    rw [← hw]
    exact (wr_cg _ (fun i hi => hpre i (by omega))).symm
  refine Vp_append (brT ?_ ⟨?_, ?_⟩)
  · rw [h5]; exact (nI_ltI (a := n) (b := 79) (by omega) (by omega)).mpr hn
  · rw [h5]; exact vp_in_nI hn (by omega)
  · rw [h5, nI_clamp (show n < 2 ^ 31 by omega)]
    by_cases hw : wr bv n = -1
    · rw [hw] at h6
      refine brT h6 (Sp_fits hn htx (fun i hi => hby' i (by omega)) ?_)
      have e15 : sgU g 2 n (nI b) 1 5 = nI n := by rw [sg_k (by decide)]; exact h5
      have e16 : sgU g 2 n (nI b) 1 6 = -1 := by rw [sg_k (by decide)]; exact h6
      rw [e15, e16]
      cases hob : okb (updN bv n b) n with
      | true =>
        rw [bP_t rfl]
        refine br1 (brT rfl ?_)
        have hw1 : wr (updN bv n b) (n + 1) = -1 := by rw [hstep, hob, if_neg (by simp), hw]
        rw [rem5 (by omega), div5 (by omega), nI_1]
        by_cases h3 : n % 5 = 3
        · refine brT (by rw [h3]; rfl) ?_
          have hn5 : n = 5 * (n / 5) + 3 := by omega
          refine Sp_takeUp (bv := updN bv n b) (by omega) (fun i hi => htx i (by omega)) (fun i hi => wr_ok (by omega) hw1 i (by omega)) (fun g' f1 f2 f3 => ?_)
          rw [f1 1 (by decide) (by decide) (by decide) (by decide), e15, nI_1]
          refine fin _ (fun c c1 c2 c3 c4 c5 c6 => by funext j; rw [sg_k c1, f1 c c3 c4 c5 c6, sg_k c2]) (fun j j5 j6 j7 j8 => by rw [sg_j j5, f1 1 (by decide) (by decide) (by decide) (by decide), sg_k (by decide)]) (by rw [sg_s]) (fun i hi => by rw [sg_k (by decide), f1 2 (by decide) (by decide) (by decide) (by decide)]; exact htx i hi) (by rw [sg_j (by decide), f1 1 (by decide) (by decide) (by decide) (by decide), e16, hw1]) (fun p hp hwp => ?_)
          rw [sg_k (by decide), sg_k (by decide), sg_k (by decide), sg_k (by decide)]
          by_cases hpq : p = n / 5
          · rw [hpq]; exact f3
          · obtain ⟨y0, y1, y2, y3⟩ := f2 p hpq
            rw [y0, y1, y2, y3, sg_k (by decide), sg_k (by decide), sg_k (by decide), sg_k (by decide)]
            exact old p (by omega) hwp
        · refine brF (fun hx => h3 ((nI_eq (a := n % 5) (b := 3) (by omega) (by omega)).mp hx)) ?_
          refine fin _ (fun c c1 c2 c3 c4 c5 c6 => by funext j; rw [sg_k c1, sg_k c2]) (fun j j5 j6 j7 j8 => by rw [sg_j j5, sg_k (by decide)]) (by rw [sg_s]) (fun i hi => by rw [sg_k (by decide)]; exact htx i hi) (by rw [sg_j (by decide), e16, hw1]) (fun p hp hwp => ?_)
          rw [sg_k (by decide), sg_k (by decide), sg_k (by decide), sg_k (by decide), sg_k (by decide), sg_k (by decide), sg_k (by decide), sg_k (by decide)]
          exact old p (by omega) hwp
      | false =>
        rw [bP_f (by decide)]
        refine br0 (brF (nI_m1 (by omega)) ?_)
        have hw1 : wr (updN bv n b) (n + 1) = nI n := by rw [hstep, if_pos ⟨hw, hob⟩]
        rw [nI_1]
        refine fin _ (fun c c1 c2 c3 c4 c5 c6 => by funext j; rw [sg_k c1, sg_k c1, sg_k c2]) (fun j j5 j6 j7 j8 => by rw [sg_j j5, sg_j j6, sg_k (by decide)]) (by rw [sg_s]) (fun i hi => by rw [sg_k (by decide), sg_k (by decide)]; exact htx i hi) (by rw [sg_j (by decide), sg_s, hw1]) (fun p hp hwp => ?_)
        have hpn : 5 * p + 3 < n := by
          rcases Nat.lt_or_ge (5 * p + 3) n with hz | hz
          · exact hz
          · have hpe : 5 * p + 4 = n + 1 := by omega
            rw [hpe, hw1] at hwp
            exact absurd hwp (nI_m1 (by omega))
        obtain ⟨y0, y1, y2, y3⟩ := old p hpn hwp
        exact ⟨by rw [sg_k (by decide), sg_k (by decide), sg_k (by decide)]; exact y0, by rw [sg_k (by decide), sg_k (by decide), sg_k (by decide)]; exact y1, by rw [sg_k (by decide), sg_k (by decide), sg_k (by decide)]; exact y2, by rw [sg_k (by decide), sg_k (by decide), sg_k (by decide)]; exact y3⟩
    · have hne : ¬ g 1 6 = -1 := by rw [h6]; exact hw
      refine brF hne (brF hne ?_)
      have hw1 : wr (updN bv n b) (n + 1) = wr bv n := by rw [hstep, if_neg (fun hx => hw hx.1)]
      rw [nI_1]
      refine fin _ (fun c c1 c2 c3 c4 c5 c6 => by funext j; rw [sg_k c1, sg_k c2]) (fun j j5 j6 j7 j8 => by rw [sg_j j5, sg_k (by decide)]) (by rw [sg_s]) (fun i hi => by rw [sg_k (by decide)]; exact htx i hi) (by rw [sg_j (by decide), sg_k (by decide), h6, hw1]) (fun p hp hwp => ?_)
      have hpn : 5 * p + 3 < n := by
        rcases Nat.lt_or_ge (5 * p + 3) n with hz | hz
        · exact hz
        · have hpe : 5 * p + 4 = n + 1 := by omega
          rw [hpe, hw1] at hwp
          exact absurd hwp hw
      obtain ⟨y0, y1, y2, y3⟩ := old p hpn hwp
      exact ⟨by rw [sg_k (by decide), sg_k (by decide)]; exact y0, by rw [sg_k (by decide), sg_k (by decide)]; exact y1, by rw [sg_k (by decide), sg_k (by decide)]; exact y2, by rw [sg_k (by decide), sg_k (by decide)]; exact y3⟩
theorem Sp_clear {bv : Nat → Nat} {g : Sg} {Q : Sg → Prop} (hk : ∀ g', frT g g' → TC bv 0 g' → Q g') : Cp_clear g Q := by
  refine Vp_clear (Sp_settle (bv := bv) (n := 0) (by omega) (by rw [sg_j (by decide), sg_s]; rfl) (by rw [sg_s]; rfl) ?_)
  refine hk _ (frT.set ⟨fun c c1 _ _ _ _ _ => by funext j; rw [sg_k c1, sg_k c1], fun j j5 j6 _ _ => by rw [sg_j j6, sg_j j5]⟩ _ _) (TC.set (by rw [sg_j (by decide), sg_s]; rfl) (fun i hi => absurd hi (by omega)) (fun i hi => absurd hi (by omega)) (by omega) (by rw [sg_s]; rfl) (fun p hp => absurd hp (by omega)))
theorem Sp_dropPipe {bv : Nat → Nat} {n : Nat} {g : Sg} {Q : Sg → Prop} (hT : TC bv n g) (hw : wr bv n = -1) (hk : ∀ g', frT g g' → TC bv (n - 5) g' → Q g') : Cp_dropPipe g Q := by
  obtain ⟨h5, ht, hby, hn, h6, h7, h8, har⟩ := hT
  refine Vp_dropPipe ?_
  have hval : (if 0 < (g 1 5 - 5) then (g 1 5 - 5) else 0) = nI (n - 5) := by
    rw [h5]
    have h1 := pk_sub_toInt (a := n) (b := 5) (by omega) (by omega)
    have h1' : (nI n - 5).toInt = (n : Int) - (5 : Nat) := h1
    by_cases hx : 5 < n
    · rw [if_pos]
      · exact pk_sub (a := n) (b := 5) (by omega)
      · rw [Int32.lt_iff_toInt_lt, h1']
        have : (0 : Int32).toInt = 0 := by decide
        omega
    · rw [if_neg]
      · rw [show n - 5 = 0 by omega]; rfl
      · rw [Int32.lt_iff_toInt_lt, h1']
        have : (0 : Int32).toInt = 0 := by decide
        omega
  rw [hval]
  have hw5 : wr bv (n - 5) = -1 := wr_pre (by omega) hw (by omega)
  refine Sp_settle (bv := bv) (n := n - 5) (by omega) (by rw [sg_s]) (by rw [sg_j (by decide), h6, hw, hw5]) ?_
  refine hk _ (frT.set ⟨fun c c1 _ _ _ _ _ => by funext j; rw [sg_k c1], fun j j5 _ _ _ => by rw [sg_j j5]⟩ _ _) (TC.set (by rw [sg_s]) (fun i hi => by rw [sg_k (by decide)]; exact ht i (by omega)) (fun i hi => hby i (by omega)) (by omega) (by rw [sg_j (by decide), h6, hw, hw5]) (fun p hp hwp => ?_))
  obtain ⟨y0, y1, y2, y3⟩ := har p (by omega) hwp
  exact ⟨by rw [sg_k (by decide)]; exact y0, by rw [sg_k (by decide)]; exact y1, by rw [sg_k (by decide)]; exact y2, by rw [sg_k (by decide)]; exact y3⟩
