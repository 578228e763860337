/-! fails, soonest, left -/
theorem nI_div {a b : Nat} (ha : a < 2 ^ 31) (hb : b < 2 ^ 31) : nI a / nI b = nI (a / b) := by
  have hq : a / b ≤ a := Nat.div_le_self a b
  apply Int32.toInt_inj.mp
  rw [Int32.toInt_div, nI_toInt ha, nI_toInt hb, nI_toInt (show a / b < 2 ^ 31 by omega), ← Int.ofNat_tdiv]
  generalize a / b = q at hq ⊢
  exact Int.bmod_eq_of_le (by omega) (by omega)
def dmp (N : Net) (x : Int32) (p : Nat) : Nat := sm p (fun q => if bt x q = true then nD N q else 0)
theorem dmp_le {N : Net} (hN : netOK N) (x : Int32) : ∀ p, p ≤ N.1 → dmp N x p ≤ 9 * p := by
  intro p
  induction p with
  | zero => intro _; exact Nat.le_refl _
  | succ p ih =>
    intro hp
    have h1 := ih (by omega)
    have h2 := (hN.2 p (by omega)).2.2.2.2.2
    show dmp N x p + (if bt x p = true then nD N p else 0) ≤ _
    split <;> omega
/-- the day on which a wire in the pipes x fails; 0: never -/
def fdy (N : Net) (hd : Nat) (x : Int32) : Nat := if dmp N x N.1 = 0 then 0 else (hd + dmp N x N.1 - 1) / dmp N x N.1
def dI (k : Nat) : Int32 := if k = 0 then -1 else nI k
theorem fdy_le (N : Net) {hd : Nat} (h1 : 1 ≤ hd) (x : Int32) : fdy N hd x ≤ hd := by
  unfold fdy
  split
  · omega
  · rename_i h
    generalize dmp N x N.1 = d at h ⊢
    have hd1 : 1 ≤ d := by omega
    have : (hd + d - 1) / d < hd + 1 := by
      rw [Nat.div_lt_iff_lt_mul (by omega)]
      have : (hd + 1) * 1 ≤ (hd + 1) * d := Nat.mul_le_mul_left _ hd1
      have h3 : hd * d = hd * d := rfl
      have h4 : (hd + 1) * d = hd * d + d := Nat.succ_mul hd d
      have h5 : hd * 1 ≤ hd * d := Nat.mul_le_mul_left _ hd1
      omega
    omega
theorem fdy_of {N : Net} {hd : Nat} {x : Int32} (hN : netOK N) (h1 : 1 ≤ hd) (h9 : hd ≤ 999) (hz : dmp N x N.1 ≠ 0) : (nI hd + nI (dmp N x N.1) - 1) / nI (dmp N x N.1) = dI (fdy N hd x) := by
  have hb := dmp_le hN x N.1 (Nat.le_refl _)
  have h16 := hN.1
  have e : fdy N hd x = (hd + dmp N x N.1 - 1) / dmp N x N.1 := by unfold fdy; rw [if_neg hz]
  have hpos : fdy N hd x ≠ 0 := by
    rw [e]
    have := Nat.div_pos (show dmp N x N.1 ≤ hd + dmp N x N.1 - 1 by omega) (by omega)
    omega
  unfold dI
  rw [if_neg hpos, e, nI_add, show nI (hd + dmp N x N.1) - 1 = nI (hd + dmp N x N.1 - 1) from pk_sub (a := hd + dmp N x N.1) (b := 1) (by omega)]
  exact nI_div (by omega) (by omega)
theorem fdy_0 {N : Net} {hd : Nat} {x : Int32} (hz : dmp N x N.1 = 0) : dI (fdy N hd x) = -1 := by
  unfold fdy dI
  rw [if_pos hz, if_pos rfl]
theorem Sp_dampIn {N : Net} {g : Sg} {x : Int32} {Q : Int32 → Sg → Prop} (hN : NC N g) (hQ : Q (nI (dmp N x N.1)) g) : Cp_dampIn x g Q := by
  have h16 := hN.1.1
  have loop : ∀ (d p : Nat), p + d = N.1 → Hp_dampIn_4 x (nI (dmp N x p)) (nI p) g Q := by
    intro d
    induction d with
    | zero =>
      intro p hp
      have hpn : p = N.1 := by omega
      refine Vp_dampIn_4 ?_
      rw [hN.2.1, hpn]
      exact brT (nI_le (Nat.le_refl _) (by omega)) hQ
    | succ d ih =>
      intro p hp
      have h1 := ih (p + 1) (by omega)
      have e : dmp N x (p + 1) = dmp N x p + (if bt x p = true then nD N p else 0) := rfl
      rw [e] at h1
      refine Vp_dampIn_4 ?_
      rw [hN.2.1, nI_1, tbb_n _ (show p < 32 by omega), nI_clamp (show p < 2 ^ 31 by omega), (hN.2.2 p (by omega)).2.2.2, nI_add]
      refine brF (nI_ge (show p < N.1 by omega) (by omega)) ?_
      by_cases hb : bt x p = true
      · rw [if_pos hb] at h1
        exact brT hb ⟨vp_in_nI (by omega) (by omega), h1⟩
      · rw [if_neg hb] at h1
        exact brF hb h1
  exact Vp_dampIn (loop N.1 0 (by omega))
theorem Sx_failingDay {N : Net} {g : Sg} {ws : Int32} {hd w : Nat} {Q : Int32 → Sg → Prop} (hN : NC N g) (h8 : g 0 8 = nI hd) (h1 : 1 ≤ hd) (h9 : hd ≤ 999) (hw : w < 16) (hQ : Q (dI (fdy N hd (PC g ws w))) g) : Cx_failingDay (nI w) ws g Q := by
  have hb := dmp_le hN.1 (PC g ws w) N.1 (Nat.le_refl _)
  have h16 := hN.1.1
  refine Vx_failingDay ⟨vp_in_nI (by omega) (by omega), ?_⟩
  have hst : (if tbb ws (nI w) = true then g 15 (nI w).toNatClampNeg else 0) = PC g ws w := by
    unfold PC
    rw [tbb_n _ (by omega), nI_clamp (show w < 2 ^ 31 by omega)]
  rw [hst]
  refine Sp_dampIn hN ?_
  rw [h8]
  by_cases hz : dmp N (PC g ws w) N.1 = 0
  · rw [← fdy_0 (hd := hd) hz]
    rw [hz]
    exact brF (by decide) hQ
  · refine brT ((nI_ltI (a := 0) (b := dmp N (PC g ws w) N.1) (by omega) (by omega)).mpr (by omega)) ⟨fun hx => hz ((nI_eq (a := dmp N (PC g ws w) N.1) (b := 0) (by omega) (by omega)).mp hx), ?_⟩
    rw [fdy_of hN.1 h1 h9 hz]
    exact hQ
theorem Sm_failsOf {N : Net} {g : Sg} {P : Nat → Int32} {hd w : Nat} {Q : Int32 → Sg → Prop} (hN : NM N g) (hG : MG g P) (h8 : g 41 2 = nI hd) (h1 : 1 ≤ hd) (h9 : hd ≤ 999) (hw : w < 16) (hQ : Q (dI (fdy N hd (P w))) g) : Cm_failsOf (nI w) g Q := by
  have hb := dmp_le hN.1 (P w) N.1 (Nat.le_refl _)
  have h16 := hN.1.1
  have hst : (if tbb (g 34 15) (nI w) = true then g 43 (nI w).toNatClampNeg else 0) = P w := by
    rw [tbb_n _ (by omega), nI_clamp (show w < 2 ^ 31 by omega), hG.1]
    by_cases hz : P w = 0
    · rw [if_neg (fun hy => (ly_bt P hw).mp hy hz), hz]
    · rw [if_pos ((ly_bt P hw).mpr hz), hG.2.1 w hw hz]
  have loop : ∀ (d p : Nat), p + d = N.1 → Hm_failsOf_4 (nI w) (nI (dmp N (P w) p)) (nI p) g Q := by
    intro d
    induction d with
    | zero =>
      intro p hp
      have hpn : p = N.1 := by omega
      refine Vm_failsOf_4 ?_
      rw [hN.2.1, hpn, h8]
      refine brT (nI_le (Nat.le_refl _) (by omega)) ?_
      by_cases hz : dmp N (P w) N.1 = 0
      · refine brT (by rw [hz]; rfl) ?_
        rw [← fdy_0 (hd := hd) hz]
        exact hQ
      · have hne : ¬ nI (dmp N (P w) N.1) = 0 := fun hx => hz ((nI_eq (a := dmp N (P w) N.1) (b := 0) (by omega) (by omega)).mp hx)
        refine brF hne ⟨hne, ?_⟩
        rw [fdy_of hN.1 h1 h9 hz]
        exact hQ
    | succ d ih =>
      intro p hp
      have h1 := ih (p + 1) (by omega)
      have e : dmp N (P w) (p + 1) = dmp N (P w) p + (if bt (P w) p = true then nD N p else 0) := rfl
      rw [e] at h1
      refine Vm_failsOf_4 ?_
      rw [hst, hN.2.1, nI_1, tbb_n _ (show p < 32 by omega), show 4 * nI p = nI (4 * p) from pk_mul 4 p, show nI (4 * p) + 3 = nI (4 * p + 3) from nI_add _ 3, nI_clamp (show 4 * p + 3 < 2 ^ 31 by omega), (hN.2.2 p (by omega)).2.2.2, nI_add]
      refine brF (nI_ge (show p < N.1 by omega) (by omega)) ⟨vp_in_nI (by omega) (by omega), ?_⟩
      by_cases hb : bt (P w) p = true
      · rw [if_pos hb] at h1
        exact brT hb ⟨vp_in_nI (by omega) (by omega), h1⟩
      · rw [if_neg hb] at h1
        exact brF hb (by rw [show (0 : Int32) = nI 0 from rfl, nI_add]; exact h1)
  exact Vm_failsOf (loop N.1 0 (by omega))
theorem op_fails {x1 : Int32} {g : Sg} {Q : Int32 → Int32 → Sg → Prop} (hR : Rel g) (hQ : ∀ r g', Rel g' → Q r r g') : Cx_fails x1 g (fun r g1 => Cm_fails x1 g1 (fun r' g2 => Q r r' g2)) := by
  obtain ⟨⟨bv, n, sh, tk, hd, m, f, t, hX⟩, hJ, hSh⟩ := id hR
  obtain ⟨hC, hM, hSet, hSt, hB⟩ := id hX
  have hm := hSt.2.2.1
  have hnet := hC.net
  obtain ⟨-, -, -, -, -, -, -, s8, s2, sl, su⟩ := hSet
  refine Vx_fails ?_
  rw [hSt.1, nI_clamp (show m < 2 ^ 31 by omega)]
  by_cases h1 : isW x1
  · obtain ⟨w, hw, rfl⟩ := isW_of h1
    refine brT h1 ⟨vp_in_nI (by omega) (by omega), Sx_failingDay hnet s8 sl su hw (Vm_fails (hX.goesAll (fun g' hk' hN' hG _ _ => brT h1 ?_)))⟩
    rw [hX.pc (Nat.le_refl m) w hw]
    exact Sm_failsOf hN' hG ((hk' 41 2 rfl).trans s2) sl su hw (hQ _ _ (hR.sc hk'))
  · exact brF h1 (Vm_fails (hX.goesAll (fun g' hk' hN' hG _ _ => brF h1 (hQ _ _ (hR.sc hk')))))
/-- the soonest of the first w wires, plus 1; 0: none -/
def snw (F : Nat → Nat) : Nat → Nat
  | 0 => 0
  | w + 1 => if F w = 0 then snw F w else if snw F w = 0 then w + 1 else if F (snw F w - 1) ≤ F w then snw F w else w + 1
def rsn (s : Nat) : Int32 := if s = 0 then -1 else nI (s - 1)
theorem snw_le (F : Nat → Nat) : ∀ w, snw F w ≤ w ∧ (snw F w ≠ 0 → F (snw F w - 1) ≠ 0) := by
  intro w
  induction w with
  | zero => exact ⟨Nat.le_refl _, fun h => absurd rfl h⟩
  | succ w ih =>
    show (if F w = 0 then snw F w else if snw F w = 0 then w + 1 else if F (snw F w - 1) ≤ F w then snw F w else w + 1) ≤ _ ∧ ((if F w = 0 then snw F w else if snw F w = 0 then w + 1 else if F (snw F w - 1) ≤ F w then snw F w else w + 1) ≠ 0 → F ((if F w = 0 then snw F w else if snw F w = 0 then w + 1 else if F (snw F w - 1) ≤ F w then snw F w else w + 1) - 1) ≠ 0)
    by_cases h1 : F w = 0
    · rw [if_pos h1]; exact ⟨by omega, ih.2⟩
    · rw [if_neg h1]
      by_cases h2 : snw F w = 0
      · rw [if_pos h2]; exact ⟨by omega, fun _ => h1⟩
      · rw [if_neg h2]
        by_cases h3 : F (snw F w - 1) ≤ F w
        · rw [if_pos h3]; exact ⟨by omega, ih.2⟩
        · rw [if_neg h3]; exact ⟨by omega, fun _ => h1⟩
theorem dI_z {k : Nat} (h : k < 2 ^ 31) : dI k = -1 ↔ k = 0 := by
  unfold dI
  by_cases hk : k = 0
  · rw [if_pos hk]; exact ⟨fun _ => hk, fun _ => rfl⟩
  · rw [if_neg hk]; exact ⟨fun hx => absurd hx.symm (m1_nI h), fun hx => absurd hx hk⟩
theorem dI_n {k : Nat} (h : k ≠ 0) : dI k = nI k := if_neg h
theorem snC {F : Nat → Nat} {ws : Int32} {g : Sg} {Q : Int32 → Sg → Prop} (hF : ∀ w, F w ≤ 999) (hd : ∀ (w : Nat) (Q' : Int32 → Sg → Prop), w < 16 → Q' (dI (F w)) g → Cx_failingDay (nI w) ws g Q') (hQ : Q (rsn (snw F 16)) g) :
    ∀ (d w : Nat), w + d = 16 → Hx_soonest_17 ws (rsn (snw F w)) (if snw F w = 0 then 1000 else nI (F (snw F w - 1))) (nI w) g Q := by
  intro d
  induction d with
  | zero =>
    intro w hw
    have h16 : w = 16 := by omega
    subst h16
    exact Vx_soonest_17 (brT (by decide) hQ)
  | succ d ih =>
    intro w hw
    have h1 := ih (w + 1) (by omega)
    have hle := snw_le F w
    have e : snw F (w + 1) = if F w = 0 then snw F w else if snw F w = 0 then w + 1 else if F (snw F w - 1) ≤ F w then snw F w else w + 1 := rfl
    rw [e] at h1
    have hFw := hF w
    refine Vx_soonest_17 (brF (fun hx => ?_) (hd w _ (by omega) ?_))
    · have := (nI_leI (a := 16) (b := w) (by omega) (by omega)).mp hx
      omega
    · rw [nI_1]
      by_cases hz : F w = 0
      · rw [if_pos hz] at h1
        exact brT ((dI_z (by omega)).mpr hz) h1
      · rw [if_neg hz] at h1
        refine brF (fun hx => hz ((dI_z (by omega)).mp hx)) ?_
        rw [dI_n hz]
        have new : (if w + 1 = 0 then 1000 else nI (F (w + 1 - 1))) = nI (F w) := by rw [if_neg (by omega)]; rfl
        have newr : rsn (w + 1) = nI w := by unfold rsn; rw [if_neg (by omega)]; rfl
        by_cases h0 : snw F w = 0
        · rw [if_pos h0, new, newr] at h1
          rw [if_pos h0]
          refine brF (fun hx => ?_) h1
          have := (nI_leI (a := 1000) (b := F w) (by omega) (by omega)).mp hx
          omega
        · have hFb := hF (snw F w - 1)
          rw [if_neg h0] at h1 ⊢
          by_cases hc : F (snw F w - 1) ≤ F w
          · rw [if_pos hc, if_neg h0] at h1
            exact brT (nI_le hc (by omega)) h1
          · rw [if_neg hc, new, newr] at h1
            exact brF (nI_ge (by omega) (by omega)) h1
theorem snM {F : Nat → Nat} {g : Sg} {Q : Int32 → Sg → Prop} (hF : ∀ w, F w ≤ 999) (hd : ∀ (w : Nat) (Q' : Int32 → Sg → Prop), w < 16 → Q' (dI (F w)) g → Cm_failsOf (nI w) g Q') (hQ : Q (rsn (snw F 16)) g) :
    ∀ (d w : Nat), w + d = 16 → Hm_soonestNow_4 (rsn (snw F w)) (nI w) g Q := by
  intro d
  induction d with
  | zero =>
    intro w hw
    have h16 : w = 16 := by omega
    subst h16
    exact Vm_soonestNow_4 (brT (by decide) hQ)
  | succ d ih =>
    intro w hw
    have h1 := ih (w + 1) (by omega)
    have hle := snw_le F w
    have e : snw F (w + 1) = if F w = 0 then snw F w else if snw F w = 0 then w + 1 else if F (snw F w - 1) ≤ F w then snw F w else w + 1 := rfl
    rw [e] at h1
    have hFw := hF w
    refine Vm_soonestNow_4 (brF (fun hx => ?_) (hd w _ (by omega) ?_))
    · have := (nI_leI (a := 16) (b := w) (by omega) (by omega)).mp hx
      omega
    · rw [nI_1]
      by_cases hz : F w = 0
      · rw [if_pos hz] at h1
        exact brT ((dI_z (by omega)).mpr hz) h1
      · rw [if_neg hz] at h1
        refine brF (fun hx => hz ((dI_z (by omega)).mp hx)) ?_
        rw [dI_n hz]
        have newr : rsn (w + 1) = nI w := by unfold rsn; rw [if_neg (by omega)]; rfl
        by_cases h0 : snw F w = 0
        · rw [if_pos h0, newr] at h1
          exact brT (by rw [h0]; rfl) h1
        · have hr : rsn (snw F w) = nI (snw F w - 1) := by unfold rsn; rw [if_neg h0]
          have hFb := hF (snw F w - 1)
          rw [if_neg h0] at h1
          rw [hr]
          refine brF (fun hh => m1_nI (show snw F w - 1 < 2 ^ 31 by omega) hh.symm) (hd _ _ (by omega) ?_)
          rw [dI_n (hle.2 h0)]
          by_cases hc : F (snw F w - 1) ≤ F w
          · rw [if_pos hc, hr] at h1
            exact brT (nI_le hc (by omega)) h1
          · rw [if_neg hc, newr] at h1
            exact brF (nI_ge (by omega) (by omega)) h1
theorem op_soonest {g : Sg} {Q : Int32 → Int32 → Sg → Prop} (hR : Rel g) (hQ : ∀ r g', Rel g' → Q r r g') : Cx_soonest g (fun r g1 => Cm_soonest g1 (fun r' g2 => Q r r' g2)) := by
  obtain ⟨⟨bv, n, sh, tk, hd, m, f, t, hX⟩, hJ, hSh⟩ := id hR
  obtain ⟨hC, hM, hSet, hSt, hB⟩ := id hX
  have hm := hSt.2.2.1
  have hnet := hC.net
  obtain ⟨-, -, -, -, -, -, -, s8, s2, sl, su⟩ := hSet
  refine Vx_soonest ?_
  rw [hSt.1, nI_clamp (show m < 2 ^ 31 by omega)]
  have hF : ∀ w, fdy (NT bv n) hd (pw (NT bv n) sh tk f t m w) ≤ 999 := fun w => Nat.le_trans (fdy_le _ sl _) su
  refine ⟨vp_in_nI (by omega) (by omega), snC (F := fun w => fdy (NT bv n) hd (pw (NT bv n) sh tk f t m w)) hF (fun w Q' hw hq => Sx_failingDay hnet s8 sl su hw (by rw [hX.pc (Nat.le_refl m) w hw]; exact hq)) ?_ 16 0 (by omega)⟩
  exact Vm_soonest (hX.goesAll (fun g' hk' hN' hG _ _ => Vm_soonestNow (snM (F := fun w => fdy (NT bv n) hd (pw (NT bv n) sh tk f t m w)) hF (fun w Q' hw hq => Sm_failsOf hN' hG ((hk' 41 2 rfl).trans s2) sl su hw hq) (hQ _ _ (hR.sc hk')) 16 0 (by omega))))
theorem op_left {x1 : Int32} {g : Sg} {Q : Int32 → Int32 → Sg → Prop} (hR : Rel g) (hQ : ∀ r g', Rel g' → Q r r g') : Cx_left x1 g (fun r g1 => Cm_left x1 g1 (fun r' g2 => Q r r' g2)) := by
  obtain ⟨⟨bv, n, sh, tk, hd, m, f, t, hX⟩, hJ, hSh⟩ := id hR
  obtain ⟨hC, hM, hSet, hSt, hB⟩ := id hX
  have hm := hSt.2.2.1
  have hnet := hC.net
  obtain ⟨-, -, -, -, -, -, -, s8, s2, sl, su⟩ := hSet
  refine (Classical.em (0 ≤ x1 ∧ x1 ≤ 999)).elim (fun h1 => ?_) (fun h1 => ?_)
  rotate_left
  · exact Vx_left (brF h1 (Vm_left (hX.goesAll (fun g' hk' hN' hG _ _ => brF h1 (hQ _ _ (hR.sc hk'))))))
  obtain ⟨y, hy, rfl⟩ := rng (n := 999) (by omega) h1
  refine Vx_left (brT h1 ?_)
  rw [hSt.1, nI_clamp (show m < 2 ^ 31 by omega)]
  refine ⟨vp_in_nI (by omega) (by omega), ?_⟩
  obtain ⟨P, hP⟩ : ∃ P, P = pw (NT bv n) sh tk f t m := ⟨_, rfl⟩
  obtain ⟨F, hFe⟩ : ∃ F : Nat → Nat, F = fun w => fdy (NT bv n) hd (P w) := ⟨_, rfl⟩
  have hF : ∀ w, F w ≤ 999 := fun w => by rw [hFe]; exact Nat.le_trans (fdy_le _ sl _) su
  have hx : ∀ (w : Nat) (Q' : Int32 → Sg → Prop), w < 16 → Q' (dI (F w)) g → Cx_failingDay (nI w) (g 14 m) g Q' := fun w Q' hw hq => Sx_failingDay hnet s8 sl su hw (by rw [hX.pc (Nat.le_refl m) w hw, ← hP]; rw [hFe] at hq; exact hq)
  have hly : g 14 m = ly P := by rw [hP]; exact (hB m (Nat.le_refl m)).1
  have fin : Cm_left (nI y) g (fun r' g2 => Q (bsf 16 (fun w => bt (ly P) w && (decide (F w = 0) || decide (y < F w)))) r' g2) := by
    refine Vm_left (hX.goesAll (fun g' hk' hN' hG _ _ => brT h1 (Vm_leftOn ?_)))
    rw [← hP] at hG
    have hz : ∀ (w : Nat) (Q' : Int32 → Sg → Prop), w < 16 → Q' (dI (F w)) g' → Cm_failsOf (nI w) g' Q' := fun w Q' hw hq => Sm_failsOf hN' hG ((hk' 41 2 rfl).trans s2) sl su hw (by rw [hFe] at hq; exact hq)
    have loop : ∀ (d w : Nat), w + d = 16 → Hm_leftOn_4 (nI y) (bsf w (fun w => bt (ly P) w && (decide (F w = 0) || decide (y < F w)))) (nI w) g' (fun r' g2 => Q (bsf 16 (fun w => bt (ly P) w && (decide (F w = 0) || decide (y < F w)))) r' g2) := by
      intro d
      induction d with
      | zero =>
        intro w hw
        have h16 : w = 16 := by omega
        subst h16
        exact Vm_leftOn_4 (brT (by decide) (hQ _ _ (hR.sc hk')))
      | succ d ih =>
        intro w hw
        have h2 := ih (w + 1) (by omega)
        have e : bsf (w + 1) (fun w => bt (ly P) w && (decide (F w = 0) || decide (y < F w))) = bsf w (fun w => bt (ly P) w && (decide (F w = 0) || decide (y < F w))) ||| (if (bt (ly P) w && (decide (F w = 0) || decide (y < F w))) = true then sb (nI w) else 0) := rfl
        rw [e] at h2
        have hFw := hF w
        refine Vm_leftOn_4 (brF (fun hx => ?_) (hz w _ (by omega) ?_))
        · have := (nI_leI (a := 16) (b := w) (by omega) (by omega)).mp hx
          omega
        · rw [nI_1, tbb_n _ (show w < 32 by omega), hG.1]
          by_cases hb : bt (ly P) w = true
          · refine brT hb ?_
            by_cases h0 : F w = 0
            · rw [if_pos (by simp [hb, h0])] at h2
              exact brT ((dI_z (by omega)).mpr h0) h2
            · refine brF (fun hx => h0 ((dI_z (by omega)).mp hx)) ?_
              rw [dI_n h0]
              by_cases hc : F w ≤ y
              · rw [if_neg (by simp [hb, h0]; omega)] at h2
                exact brT (nI_le hc (by omega)) h2
              · rw [if_pos (by simp [hb, h0]; omega)] at h2
                exact brF (nI_ge (by omega) (by omega)) h2
          · rw [if_neg (by simp [hb])] at h2
            exact brF hb h2
    exact loop 16 0 (by omega)
  have loop : ∀ (d w : Nat) (z : Int32), w + d = 16 → (∀ i, i < 32 → bt z i = (bt (ly P) i && (decide (w ≤ i) || (decide (F i = 0) || decide (y < F i))))) → Hx_left_27 (nI y) (g 14 m) z (nI w) g (fun r g1 => Cm_left (nI y) g1 (fun r' g2 => Q r r' g2)) := by
    intro d
    induction d with
    | zero =>
      intro w z hw hz
      have h16 : w = 16 := by omega
      subst h16
      refine Vx_left_27 (brT (by decide) ?_)
      have e : z = bsf 16 (fun w => bt (ly P) w && (decide (F w = 0) || decide (y < F w))) := b_ext (fun i hi => by
        rw [hz i hi, bsf_bt _ 16 i (by omega)]
        rcases Nat.lt_or_ge i 16 with hlt | hge
        · have : ¬ 16 ≤ i := by omega
          simp [hlt, this]
        · rw [ly_hi P hge]
          simp)
      rw [e]
      exact fin
    | succ d ih =>
      intro w z hw hz
      have hFw := hF w
      refine Vx_left_27 (brF (fun hx => ?_) (hx w _ (by omega) ?_))
      · have := (nI_leI (a := 16) (b := w) (by omega) (by omega)).mp hx
        omega
      · rw [nI_1]
        have keep : (F w = 0 ∨ y < F w) → Hx_left_27 (nI y) (g 14 m) z (nI (w + 1)) g (fun r g1 => Cm_left (nI y) g1 (fun r' g2 => Q r r' g2)) := fun hk => by
          refine ih (w + 1) z (by omega) (fun i hi => ?_)
          rw [hz i hi]
          by_cases hiw : i = w
          · subst hiw
            rcases hk with hk | hk <;> simp [hk]
          · have : (w ≤ i) = (w + 1 ≤ i) := propext (by omega)
            simp [this]
        by_cases h0 : F w = 0
        · exact brT ((dI_z (by omega)).mpr h0) (keep (Or.inl h0))
        · refine brF (fun hx => h0 ((dI_z (by omega)).mp hx)) ?_
          rw [dI_n h0]
          by_cases hc : y < F w
          · exact brT (nI_lt hc (by omega)) (keep (Or.inr hc))
          · refine brF (nI_nlt (by omega) (by omega)) (ih (w + 1) _ (by omega) (fun i hi => ?_))
            rw [b_and, b_xor, b_sb (by omega), b_m1 i hi, hz i hi]
            by_cases hiw : i = w
            · subst hiw
              have : ¬ i + 1 ≤ i := by omega
              simp [h0, hc, this]
            · have : (w ≤ i) = (w + 1 ≤ i) := propext (by omega)
              simp [hiw, this]
  exact loop 16 0 (g 14 m) (by omega) (fun i hi => by rw [hly]; simp)
