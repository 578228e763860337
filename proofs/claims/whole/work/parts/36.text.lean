/-! the text of the pipes, and the reference's reading of it -/
/-- may this byte stand where it does -/
def okb (bv : Nat → Nat) (i : Nat) : Bool :=
  if i % 5 = 0 then decide (97 ≤ bv i ∧ bv i ≤ 104) else if i % 5 = 1 then decide ((97 ≤ bv i ∧ bv i ≤ 104) ∧ bv i ≠ bv (i - 1)) else if i % 5 = 2 then decide (49 ≤ bv i ∧ bv i ≤ 57) else if i % 5 = 3 then decide (48 ≤ bv i ∧ bv i ≤ 57) else decide (bv i = 59)
/-- the first byte that may not -/
def wr (bv : Nat → Nat) : Nat → Int32
  | 0 => -1
  | n + 1 => if wr bv n = -1 ∧ okb bv n = false then nI n else wr bv n
def ended (n : Nat) : Bool := decide (n = 0) || decide (n % 5 = 4)
def flt (bv : Nat → Nat) (n : Nat) : Int32 := if wr bv n = -1 ∧ ended n = false then nI n else wr bv n
def mny (bv : Nat → Nat) (n : Nat) : Nat := if flt bv n = -1 then (n + 1) / 5 else 0
def NT (bv : Nat → Nat) (n : Nat) : Net := (mny bv n, fun p => (bv (5 * p) - 97, bv (5 * p + 1) - 97, bv (5 * p + 2) - 48, bv (5 * p + 3) - 48))
theorem wr_all {bv : Nat → Nat} : ∀ n : Nat, (∀ i, i < n → okb bv i = true) → wr bv n = -1 := by
  intro n
  induction n with
  | zero => intro _; rfl
  | succ n ih =>
    intro h
    show (if wr bv n = -1 ∧ okb bv n = false then nI n else wr bv n) = -1
    rw [h n (by omega), if_neg (by simp)]
    exact ih (fun i hi => h i (by omega))
theorem wr_at {bv : Nat → Nat} {j : Nat} (hj : j < 2 ^ 31) (h : ∀ i, i < j → okb bv i = true) (hb : okb bv j = false) : ∀ n : Nat, j < n → wr bv n = nI j := by
  intro n
  induction n with
  | zero => intro hx; omega
  | succ n ih =>
    intro hjn
    show (if wr bv n = -1 ∧ okb bv n = false then nI n else wr bv n) = nI j
    by_cases hx : n = j
    · subst hx
      rw [if_pos ⟨wr_all n h, hb⟩]
    · have := ih (by omega)
      rw [if_neg (by rw [this]; exact fun hy => nI_m1 hj hy.1), this]
theorem wr_ok {bv : Nat → Nat} {n : Nat} (hn : n < 2 ^ 31) (h : wr bv n = -1) : ∀ i, i < n → okb bv i = true := by
  intro i hi
  cases hb : okb bv i with
  | true => rfl
  | false =>
    obtain ⟨j, ⟨h1, h2⟩, h3⟩ := pk_least (fun j => j < n ∧ okb bv j = false) ⟨i, hi, hb⟩
    have h4 : ∀ q, q < j → okb bv q = true := fun q hq => by
      cases hc : okb bv q with
      | true => rfl
      | false => exact absurd ⟨by omega, hc⟩ (h3 q hq)
    rw [wr_at (by omega) h4 h2 n h1] at h
    exact absurd h (nI_m1 (by omega))
theorem okb0 {bv : Nat → Nat} {q : Nat} : okb bv (5 * q) = decide (97 ≤ bv (5 * q) ∧ bv (5 * q) ≤ 104) := by unfold okb; rw [if_pos (by omega)]
theorem okb1 {bv : Nat → Nat} {q : Nat} : okb bv (5 * q + 1) = decide ((97 ≤ bv (5 * q + 1) ∧ bv (5 * q + 1) ≤ 104) ∧ bv (5 * q + 1) ≠ bv (5 * q)) := by unfold okb; rw [if_neg (by omega), if_pos (by omega)]; rfl
theorem okb2 {bv : Nat → Nat} {q : Nat} : okb bv (5 * q + 2) = decide (49 ≤ bv (5 * q + 2) ∧ bv (5 * q + 2) ≤ 57) := by unfold okb; rw [if_neg (by omega), if_neg (by omega), if_pos (by omega)]
theorem okb3 {bv : Nat → Nat} {q : Nat} : okb bv (5 * q + 3) = decide (48 ≤ bv (5 * q + 3) ∧ bv (5 * q + 3) ≤ 57) := by unfold okb; rw [if_neg (by omega), if_neg (by omega), if_neg (by omega), if_pos (by omega)]
theorem okb4 {bv : Nat → Nat} {q : Nat} : okb bv (5 * q + 4) = decide (bv (5 * q + 4) = 59) := by unfold okb; rw [if_neg (by omega), if_neg (by omega), if_neg (by omega), if_neg (by omega)]
theorem NT_ok {bv : Nat → Nat} {n : Nat} (hn : n ≤ 79) : netOK (NT bv n) := by
  have hm : mny bv n ≤ 16 := by unfold mny; split <;> omega
  refine ⟨hm, fun p hp => ?_⟩
  have hp' : p < mny bv n := hp
  unfold mny at hp'
  split at hp'
  · rename_i hf
    have hw : wr bv n = -1 := by
      unfold flt at hf
      split at hf
      · exact absurd hf (nI_m1 (by omega))
      · exact hf
    have ha := wr_ok (by omega) hw
    have h0 := ha (5 * p) (by omega)
    have h1 := ha (5 * p + 1) (by omega)
    have h2 := ha (5 * p + 2) (by omega)
    have h3 := ha (5 * p + 3) (by omega)
    rw [okb0] at h0; rw [okb1] at h1; rw [okb2] at h2; rw [okb3] at h3
    have k0 := of_decide_eq_true h0
    have k1 := of_decide_eq_true h1
    have k2 := of_decide_eq_true h2
    have k3 := of_decide_eq_true h3
    show bv (5 * p) - 97 < 8 ∧ bv (5 * p + 1) - 97 < 8 ∧ bv (5 * p) - 97 ≠ bv (5 * p + 1) - 97 ∧ 1 ≤ bv (5 * p + 2) - 48 ∧ bv (5 * p + 2) - 48 ≤ 9 ∧ bv (5 * p + 3) - 48 ≤ 9
    have hne := k1.2
    omega
  · omega
/-- v = byte - base lies between lo and hi -/
theorem in_by {y c lo hi : Nat} (hy : y < 256) (hc : c < 256) (hl : lo < 256) (hh : hi < 256) : (nI lo ≤ nI y - nI c ∧ nI y - nI c ≤ nI hi) ↔ (lo + c ≤ y ∧ y ≤ hi + c) := by
  have h1 := pk_sub_toInt (a := y) (b := c) (by omega) (by omega)
  rw [Int32.le_iff_toInt_le, Int32.le_iff_toInt_le, h1, nI_toInt (by omega), nI_toInt (by omega)]
  omega
/-- the text in the reference -/
def TM (bv : Nat → Nat) (n : Nat) (g : Sg) : Prop := g 34 6 = nI n ∧ (∀ i, i < n → g 39 i = nI (bv i)) ∧ (∀ i, i < n → bv i < 256) ∧ n ≤ 79
/-- pipes 0 .. q - 1 stand in the row -/
def PM (bv : Nat → Nat) (q : Nat) (g : Sg) : Prop := ∀ p, p < q → g 40 (4 * p) = nI (bv (5 * p) - 97) ∧ g 40 (4 * p + 1) = nI (bv (5 * p + 1) - 97) ∧ g 40 (4 * p + 2) = nI (bv (5 * p + 2) - 48) ∧ g 40 (4 * p + 3) = nI (bv (5 * p + 3) - 48)
def frR (g0 g : Sg) : Prop := (∀ c, c ≠ 34 → c ≠ 40 → g c = g0 c) ∧ ∀ j, j ≠ 7 → j ≠ 8 → g 34 j = g0 34 j
def bse (k : Nat) : Nat := if k < 2 then 97 else 48
theorem rp_loop {bv : Nat → Nat} {n q : Nat} {g0 : Sg} {Q : Int32 → Sg → Prop} (hT : TM bv n g0) (hq : 5 * q ≤ n) (hall : ∀ i, i < 5 * q → okb bv i = true)
    (hk1 : ∀ g', frR g0 g' → PM bv (q + 1) g' → g' 34 7 = nI (5 * q + 4) → g' 34 8 = nI (q + 1) → 5 * q + 4 ≤ n → (∀ i, i < 5 * q + 4 → okb bv i = true) → Q 1 g')
    (hk0 : ∀ g' i, frR g0 g' → g' 34 7 = nI i → i ≤ n → i ≤ 5 * q + 3 → (∀ v, v < i → okb bv v = true) → (i < n → okb bv i = false) → Q 0 g') :
    ∀ (m k : Nat) (g : Sg), k + m = 4 → frR g0 g → PM bv q g → (∀ j, j < k → g 40 (4 * q + j) = nI (bv (5 * q + j) - bse j)) → g 34 7 = nI (5 * q + k) → g 34 8 = nI q → 5 * q + k ≤ n → (∀ i, i < 5 * q + k → okb bv i = true) → Hm_readsPipe_13 (nI k) g Q := by
  obtain ⟨hty, htx, hby, hn79⟩ := hT
  intro m
  induction m with
  | zero =>
    intro k g hkm hfr hP hcur h7 h8 hle hok
    have hk4 : k = 4 := by omega
    rw [hk4] at hcur h7 hle hok ⊢
    refine Vm_readsPipe_13 (brT (by decide) ?_)
    rw [h8, nI_1]
    refine hk1 _ ⟨fun c c34 c40 => by funext j; rw [sg_k c34, hfr.1 c c34 c40], fun j j7 j8 => by rw [sg_j j8]; exact hfr.2 j j7 j8⟩ (fun p hp => ?_) (by rw [sg_j (by decide)]; exact h7) (by rw [sg_s]) hle hok
    rw [sg_k (by decide), sg_k (by decide), sg_k (by decide), sg_k (by decide)]
    by_cases hpq : p = q
    · rw [hpq]
      have c0 := hcur 0 (by omega)
      have c1 := hcur 1 (by omega)
      have c2 := hcur 2 (by omega)
      have c3 := hcur 3 (by omega)
      exact ⟨c0, c1, c2, c3⟩
    · exact hP p (by omega)
  | succ m ih =>
    intro k g hkm hfr hP hcur h7 h8 hle hok
    have hk4 : k < 4 := by omega
    have hq15 : q ≤ 15 := by omega
    have e39 : ∀ i, i < n → g 39 i = nI (bv i) := fun i hi => by rw [hfr.1 39 (by decide) (by decide)]; exact htx i hi
    have e6 : g 34 6 = nI n := by rw [hfr.2 6 (by decide) (by decide)]; exact hty
    -- the byte is wrong, or there is none
    have bad : ((5 * q + k < n) → okb bv (5 * q + k) = false) → Q 0 g := fun hb => hk0 g (5 * q + k) hfr h7 hle (by omega) hok hb
    -- the byte is well
    have well : 5 * q + k < n → okb bv (5 * q + k) = true → ∀ x, x = nI (bv (5 * q + k) - bse k) → Hm_readsPipe_114 (nI k) x 1 g Q := by
      intro hlt hb x hx
      refine Vm_readsPipe_114 (brF (by decide) ?_)
      rw [h8, mulR, nI_add, h7, addL]
      refine ⟨vp_in_nI (by omega) (by omega), ?_⟩
      rw [nI_clamp (by omega), nI_1]
      refine ih (k + 1) _ (by omega) ⟨fun c c34 c40 => by funext j; rw [sg_k c34, sg_k c40, hfr.1 c c34 c40], fun j j7 j8 => by rw [sg_j j7, sg_k (by decide)]; exact hfr.2 j j7 j8⟩ (fun p hp => ?_) (fun j hj => ?_) ?_ ?_ (by omega) (fun i hi => ?_)
      · obtain ⟨d0, d1, d2, d3⟩ := hP p hp
        exact ⟨by rw [sg_k (by decide), sg_j (by omega)]; exact d0, by rw [sg_k (by decide), sg_j (by omega)]; exact d1, by rw [sg_k (by decide), sg_j (by omega)]; exact d2, by rw [sg_k (by decide), sg_j (by omega)]; exact d3⟩
      · rw [sg_k (by decide)]
        by_cases hjk : j = k
        · rw [hjk, sg_s]; exact hx
        · rw [sg_j (by omega)]; exact hcur j (by omega)
      · rw [sg_s]; rfl
      · rw [sg_j (by decide), sg_k (by decide)]; exact h8
      · by_cases hik : i = 5 * q + k
        · rw [hik]; exact hb
        · exact hok i (by omega)
    have fail0 : ∀ x, ((5 * q + k < n) → okb bv (5 * q + k) = false) → Hm_readsPipe_114 (nI k) x 0 g Q := fun x hb => Vm_readsPipe_114 (brT rfl (bad hb))
    refine Vm_readsPipe_13 (brF (fun hx => ?_) ?_)
    · have : 4 ≤ k := (nI_leI (a := 4) (b := k) (by omega) (by omega)).mp hx
      omega
    · rw [e6, h7]
      rcases Nat.lt_or_ge (5 * q + k) n with hlt | hge
      · have hb := hby _ hlt
        refine brF (nI_ge hlt (by omega)) ⟨vp_in_nI (by omega) (by omega), ?_⟩
        rw [nI_clamp (by omega), e39 _ hlt]
        have nb : okb bv (5 * q + k) ≠ true → okb bv (5 * q + k) = false := fun hx => by
          cases hc : okb bv (5 * q + k) with
          | true => exact absurd hc hx
          | false => rfl
        rcases (show k = 0 ∨ k = 1 ∨ k = 2 ∨ k = 3 by omega) with rfl | rfl | rfl | rfl
        · refine brF (by decide) (Vm_readsPipe_56 (brF (by decide) (brF (by decide) (Vm_readsPipe_82 ?_))))
          have hin : ((0 : Int64) ≤ (nI (bv (5 * q + 0)) - 97).toInt64 ∧ (nI (bv (5 * q + 0)) - 97).toInt64 ≤ 7) ↔ (0 + 97 ≤ bv (5 * q + 0) ∧ bv (5 * q + 0) ≤ 7 + 97) := by
            rw [← in_by (y := bv (5 * q + 0)) (c := 97) (lo := 0) (hi := 7) hb (by omega) (by omega) (by omega), ← l_le, ← l_le]; rfl
          by_cases hc : (0 + 97 ≤ bv (5 * q + 0) ∧ bv (5 * q + 0) ≤ 7 + 97)
          · refine brT (hin.mpr hc) (brF (by decide) (well hlt ?_ _ ?_))
            · rw [Nat.add_zero, okb0]; exact decide_eq_true (by simpa using hc)
            · exact pk_sub (a := bv (5 * q + 0)) (b := 97) (by omega)
          · refine brF (fun hx => hc (hin.mp hx)) (fail0 _ (fun _ => nb (fun hx => hc ?_)))
            rw [Nat.add_zero, okb0] at hx
            simpa using of_decide_eq_true hx
        · refine brF (by decide) (Vm_readsPipe_56 (brF (by decide) (brF (by decide) (Vm_readsPipe_82 ?_))))
          have hin : ((0 : Int64) ≤ (nI (bv (5 * q + 1)) - 97).toInt64 ∧ (nI (bv (5 * q + 1)) - 97).toInt64 ≤ 7) ↔ (0 + 97 ≤ bv (5 * q + 1) ∧ bv (5 * q + 1) ≤ 7 + 97) := by
            rw [← in_by (y := bv (5 * q + 1)) (c := 97) (lo := 0) (hi := 7) hb (by omega) (by omega) (by omega), ← l_le, ← l_le]; rfl
          by_cases hc : (0 + 97 ≤ bv (5 * q + 1) ∧ bv (5 * q + 1) ≤ 7 + 97)
          · refine brT (hin.mpr hc) (brT rfl ?_)
            have hs : nI (bv (5 * q + 1)) - 97 = nI (bv (5 * q + 1) - 97) := pk_sub (a := bv (5 * q + 1)) (b := 97) (by omega)
            have c0 := hcur 0 (by omega)
            have ok0 := hok (5 * q) (by omega)
            rw [okb0] at ok0
            have k0 := of_decide_eq_true ok0
            have hb0 : bse 0 = 97 := rfl
            rw [Nat.add_zero, Nat.add_zero, hb0] at c0
            rw [h8, mulR]
            refine ⟨vp_in_nI (by omega) (by omega), ?_⟩
            rw [nI_clamp (by omega)]
            have e40 : g 40 (OfNat.ofNat 4 * q) = nI (bv (5 * q) - 97) := c0
            rw [e40, hs]
            by_cases hne : bv (5 * q + 1) = bv (5 * q)
            · refine brT (by rw [hne]) (fail0 _ (fun _ => nb (fun hx => ?_)))
              rw [okb1] at hx
              exact (of_decide_eq_true hx).2 hne
            · refine brF (fun hx => ?_) (well hlt ?_ _ rfl)
              · have := (nI_eq (by omega) (by omega)).mp hx
                omega
              · rw [okb1]; exact decide_eq_true ⟨by omega, hne⟩
          · refine brF (fun hx => hc (hin.mp hx)) (fail0 _ (fun _ => nb (fun hx => hc ?_)))
            rw [okb1] at hx
            have := (of_decide_eq_true hx).1
            omega
        · refine brT (by decide) (Vm_readsPipe_56 (brT (by decide) (brT (by decide) (Vm_readsPipe_82 ?_))))
          have hin : ((1 : Int64) ≤ (nI (bv (5 * q + 2)) - 48).toInt64 ∧ (nI (bv (5 * q + 2)) - 48).toInt64 ≤ 9) ↔ (1 + 48 ≤ bv (5 * q + 2) ∧ bv (5 * q + 2) ≤ 9 + 48) := by
            rw [← in_by (y := bv (5 * q + 2)) (c := 48) (lo := 1) (hi := 9) hb (by omega) (by omega) (by omega), ← l_le, ← l_le]; rfl
          by_cases hc : (1 + 48 ≤ bv (5 * q + 2) ∧ bv (5 * q + 2) ≤ 9 + 48)
          · refine brT (hin.mpr hc) (brF (by decide) (well hlt ?_ _ ?_))
            · rw [okb2]; exact decide_eq_true (by simpa using hc)
            · exact pk_sub (a := bv (5 * q + 2)) (b := 48) (by omega)
          · refine brF (fun hx => hc (hin.mp hx)) (fail0 _ (fun _ => nb (fun hx => hc ?_)))
            rw [okb2] at hx
            simpa using of_decide_eq_true hx
        · refine brT (by decide) (Vm_readsPipe_56 (brF (by decide) (brT (by decide) (Vm_readsPipe_82 ?_))))
          have hin : ((0 : Int64) ≤ (nI (bv (5 * q + 3)) - 48).toInt64 ∧ (nI (bv (5 * q + 3)) - 48).toInt64 ≤ 9) ↔ (0 + 48 ≤ bv (5 * q + 3) ∧ bv (5 * q + 3) ≤ 9 + 48) := by
            rw [← in_by (y := bv (5 * q + 3)) (c := 48) (lo := 0) (hi := 9) hb (by omega) (by omega) (by omega), ← l_le, ← l_le]; rfl
          by_cases hc : (0 + 48 ≤ bv (5 * q + 3) ∧ bv (5 * q + 3) ≤ 9 + 48)
          · refine brT (hin.mpr hc) (brF (by decide) (well hlt ?_ _ ?_))
            · rw [okb3]; exact decide_eq_true (by simpa using hc)
            · exact pk_sub (a := bv (5 * q + 3)) (b := 48) (by omega)
          · refine brF (fun hx => hc (hin.mp hx)) (fail0 _ (fun _ => nb (fun hx => hc ?_)))
            rw [okb3] at hx
            simpa using of_decide_eq_true hx
      · refine brT (nI_le hge (by omega)) ?_
        have fl : ∀ s0 s1 : Int64, (¬ (s1 ≤ (-1 : Int32).toInt64 ∧ (-1 : Int32).toInt64 ≤ s0)) → Hm_readsPipe_82 (nI k) (-1) s0 s1 (-1 : Int32).toInt64 g Q := fun s0 s1 hx => Vm_readsPipe_82 (brF hx (fail0 _ (fun hy => absurd hy (by omega))))
        exact Vm_readsPipe_56 ⟨fun _ => ⟨fun _ => fl 9 1 (by decide), fun _ => fl 7 1 (by decide)⟩, fun _ => ⟨fun _ => fl 9 0 (by decide), fun _ => fl 7 0 (by decide)⟩⟩
