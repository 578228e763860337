/-! digest: the reference -/
theorem fld_0 (F : Nat → Int64 → Int64) (h : Int64) : fld F 0 h = h := rfl
def StD (g0 : Sg) (N : Net) (P : Nat → Int32) (g : Sg) : Prop := Kp scA g0 g ∧ NM N g ∧ MG g P
theorem Sm_digest {g0 : Sg} {bv : Nat → Nat} {n : Nat} {sh : Int32} {tk hd m : Nat} {f t : Nat → Int32} {mc sc : Nat} {S : Nat → Int32} {Q : Int64 → Sg → Prop} (hX : RelX g0 bv n sh tk hd m f t) (hmc : mc ≤ 8) (hsc : sc ≤ 6) (j2 : g0 34 26 = nI mc) (j4 : g0 34 28 = nI sc) (hS : ∀ i, i < sc → g0 54 i = S i)
    (hj : ∀ i, i < mc → ∃ w a b : Nat, w < 16 ∧ a < 8 ∧ b < 8 ∧ a ≠ b ∧ g0 27 i = nI w ∧ g0 28 i = sb (nI a) ||| sb (nI b) ∧ g0 53 (3 * i) = nI w ∧ g0 53 (3 * i + 1) = nI a ∧ g0 53 (3 * i + 2) = nI b)
    (hQ : ∀ g', Kp scA g0 g' → Q (dgA (NT bv n) n (flt bv n) sh tk hd m f t mc sc S (g0 34 4) (bsf mc (fun i => !lieT g0 (pw (NT bv n) sh tk f t m) i))) g') : Cm_digest g0 Q := by
  obtain ⟨hC, hM, hSet, hSt, hB⟩ := id hX
  have hm := hSt.2.2.1
  have h16 := hC.net.1.1
  obtain ⟨-, s41, -, -, s41', -, htk, s8, s2, sl, su⟩ := id hSet
  obtain ⟨P, hP⟩ : ∃ P, P = pw (NT bv n) sh tk f t m := ⟨_, rfl⟩
  obtain ⟨L, hL⟩ : ∃ L, L = litA (NT bv n) sh tk (ld P) (wE f t (ly P) 16) 14 := ⟨_, rfl⟩
  obtain ⟨li, hli⟩ : ∃ li, li = bsf mc (fun i => !lieT g0 P i) := ⟨_, rfl⟩
  unfold dgA at hQ
  rw [← hP, ← hL, ← hli] at hQ
  have hF : ∀ w, fdy (NT bv n) hd (P w) ≤ 999 := fun w => Nat.le_trans (fdy_le _ sl _) su
  -- behind the lets
  have s328 : ∀ (h : Int64) (g : Sg), StD g0 (NT bv n) P g → (g 50 0, g 50 1, g 50 2) = L → (∀ g', Kp scA g0 g' → Q (dg6 (NT bv n) sh tk m f t P sc S li L h) g') → Hm_digest_328 h 0 g Q := by
    intro h g hst h50 hq
    have e0 : g 50 0 = L.1 := by rw [← h50]
    have e1 : g 50 1 = L.2.1 := by rw [← h50]
    have e2 : g 50 2 = L.2.2 := by rw [← h50]
    refine Vm_digest_328 (brF (by decide) ⟨vp_in_nI (n := 0) (by omega) (by omega), ?_⟩)
    refine Vm_digest_328 (brF (by decide) ⟨vp_in_nI (n := 1) (by omega) (by omega), ?_⟩)
    refine Vm_digest_328 (brF (by decide) ⟨vp_in_nI (n := 2) (by omega) (by omega), ?_⟩)
    refine Vm_digest_328 (brT (by decide) ?_)
    have c0 : ((0 : Int32)).toNatClampNeg = 0 := by decide
    have c1 : ((0 : Int32) + 1).toNatClampNeg = 1 := by decide
    have c2 : ((0 : Int32) + 1 + 1).toNatClampNeg = 2 := by decide
    rw [c0, c1, c2, e0, e1, e2]
    obtain ⟨hk, hN, hG⟩ := hst
    have e41 : g 41 0 = sh := (hk 41 0 rfl).trans s41
    refine Sm_heardOf (fr := 0) (bl := 4) hN e41 (by omega) (by omega) (by decide) (fun g1 hf1 => ?_)
    have hk1 : Kp scA g0 g1 := hk.tr (Kp.w2 hf1 (fun _ => rfl) (fun _ => rfl))
    have hN1 := hN.wk hf1
    have hG1 : MG g1 P := ⟨by rw [hf1 34 (by decide) (by decide)]; exact hG.1, fun w hw hne => by rw [hf1 43 (by decide) (by decide)]; exact hG.2.1 w hw hne, fun p hp => by rw [hf1 44 (by decide) (by decide)]; exact hG.2.2 p hp⟩
    refine Sm_drowsyOf (e := 0) (k := 9) hN1 ((hk1 41 0 rfl).trans s41) (by omega) (by omega) ?_
    refine Sm_liesNow hX hmc j2 hj hk1 (by rw [← hP]; exact hG1) ?_
    rw [← hP, ← hli, hk1 34 11 rfl, hSt.2.1]
    have hX1 := hX.sc hk1
    refine Sm_scenesOf (S := S) hX1 (Nat.le_refl m) ((hk1 34 28 rfl).trans j4) hsc (fun i hi => (hk1 54 i rfl).trans (hS i hi)) (fun g2 hk2 _ _ => Vm_cue ?_)
    rw [← hP, hk2 34 28 rfl, hk1 34 28 rfl, j4]
    by_cases hs0 : sc = 0
    · have hz := hq g2 (hk1.tr hk2)
      unfold dg6 at hz
      rw [if_pos hs0] at hz
      exact brF (by rw [hs0]; decide) hz
    · refine brT ?_ (Sm_cueOf (s := 0) (S := S) (hX1.sc hk2) (((hk1.tr hk2) 34 28 rfl).trans j4) hsc (by omega) (fun i hi => ((hk1.tr hk2) 54 i rfl).trans (hS i hi)) (fun g3 hk3 => ?_))
      · rw [show nI sc - 1 = nI (sc - 1) from pk_sub (a := sc) (b := 1) (by omega)]
        exact rng' (k := 0) (by omega) (by omega)
      · have hz := hq g3 ((hk1.tr hk2).tr hk3)
        unfold dg6 at hz
        rw [if_neg hs0] at hz
        exact hz
  have s250 : ∀ (h0 : Int64), (∀ g', Kp scA g0 g' → Q (dg6 (NT bv n) sh tk m f t P sc S li L (dg5 (NT bv n) sh tk P h0)) g') → ∀ (d k : Nat) (g : Sg), k + d = 7 → StD g0 (NT bv n) P g → Hm_digest_250 (fld (emx (NT bv n) sh tk P) k h0) (nI (k + 1)) g Q := by
    intro h0 hq d
    induction d with
    | zero =>
      intro k g hk hst
      have h7 : k = 7 := by omega
      subst h7
      obtain ⟨k1, k2, k3⟩ := hst
      refine Vm_digest_250 (brT (by decide) (Sm_findLitR hX k1 k2 (by rw [← hP]; exact k3) (fun g1 hk1 hN1 hG1 he1 => ?_)))
      rw [← hP] at he1 hG1
      exact s328 _ g1 ⟨k1.tr hk1, hN1, hG1⟩ (by rw [hL]; exact he1) hq
    | succ d ih =>
      intro k g hk hst
      obtain ⟨k1, k2, k3⟩ := hst
      refine Vm_digest_250 (brF (fun hx => ?_) ?_)
      · have := (nI_leI (a := 8) (b := k + 1) (by omega) (by omega)).mp hx
        omega
      refine Sm_short (a := 0) (b := k + 1) hX k1 k2 (by rw [← hP]; exact k3) (by omega) (by omega) (by omega) (fun g1 hk1 hN1 hG1 => ?_)
      refine Sm_drawnR (a := 0) (b := k + 1) hX (k1.tr hk1) hN1 hG1 (by omega) (by omega) (by omega) (fun g2 hk2 hN2 hG2 => ?_)
      refine Sm_mostR (a := 0) (b := k + 1) hX ((k1.tr hk1).tr hk2) hN2 hG2 (by omega) (by omega) (by omega) (fun g3 hk3 hN3 hG3 => ?_)
      have hk03 := ((k1.tr hk1).tr hk2).tr hk3
      refine Sm_heardOf (fr := 0) (bl := 3) hN3 ((hk03 41 0 rfl).trans s41) (by omega) (by omega) ⟨Int32.le_trans (show (-1 : Int32) ≤ 0 by decide) (nI_pos' (by omega)), (rng' (n := 7) (by omega) (show k + 1 ≤ 7 by omega)).2⟩ (fun g4 hf4 => ?_)
      rw [← hP] at hG3
      have hst4 : StD g0 (NT bv n) P g4 := ⟨hk03.tr (Kp.w2 hf4 (fun _ => rfl) (fun _ => rfl)), hN3.wk hf4, ⟨by rw [hf4 34 (by decide) (by decide)]; exact hG3.1, fun w hw hne => by rw [hf4 43 (by decide) (by decide)]; exact hG3.2.1 w hw hne, fun p hp => by rw [hf4 44 (by decide) (by decide)]; exact hG3.2.2 p hp⟩⟩
      have hz := ih (k + 1) g4 (by omega) hst4
      rw [nI_1, ← hP]
      exact hz
  have s121 : ∀ (h0 : Int64), (∀ g', Kp scA g0 g' → Q (dg6 (NT bv n) sh tk m f t P sc S li L (dg5 (NT bv n) sh tk P (dg4 (NT bv n) tk hd f t P (dg3 (NT bv n) hd P h0)))) g') → ∀ (g : Sg), StD g0 (NT bv n) P g → ∀ (d w : Nat), w + d = 16 → Hm_digest_121 (fld (wmx (NT bv n) hd P) w h0) (nI w) g Q := by
    intro h0 hq g hst d
    obtain ⟨k1, k2, k3⟩ := id hst
    have e412 : g 41 2 = nI hd := (k1 41 2 rfl).trans s2
    induction d with
    | zero =>
      intro w hw
      have h16w : w = 16 := by omega
      subst h16w
      refine Vm_digest_121 (brT (by decide) (Sm_fullNow (N := NT bv n) (P := P) (tk := tk) h16 k2.2.1 ((k1 41 1 rfl).trans s41') htk k3.2.2 (Vm_soonestNow (snM (F := fun w => fdy (NT bv n) hd (P w)) hF (fun w Q' hw hq => Sm_failsOf k2 k3 e412 sl su hw hq) ?_ 16 0 (by omega)))))
      refine Sm_leftOn (y := 9) k2 k3 e412 sl su (by omega) ?_
      refine Sm_burnsNow hX k1 (Nat.le_refl m) (by rw [← hP]; exact k3.1) (Sm_burnsNow hX k1 (Nat.le_refl m) (by rw [← hP]; exact k3.1) ?_)
      rw [← hP, k3.1]
      exact s250 (dg4 (NT bv n) tk hd f t P (dg3 (NT bv n) hd P h0)) hq 7 0 g (by omega) hst
    | succ d ih =>
      intro w hw
      refine Vm_digest_121 (brF (fun hx => ?_) ⟨vp_in_nI (by omega) (by omega), Sm_outOf (by omega) k3 (Sm_failsOf k2 k3 e412 sl su (by omega) ?_)⟩)
      · have := (nI_leI (a := 16) (b := w) (by omega) (by omega)).mp hx
        omega
      have e1 : (if tbb (g 34 15) (nI w) = true then g 43 (nI w).toNatClampNeg else 0) = P w := by
        rw [k3.1, tbb_n _ (by omega), nI_clamp (show w < 2 ^ 31 by omega)]
        by_cases hx : P w = 0
        · rw [if_neg (fun hy => (ly_bt P (by omega)).mp hy hx), hx]
        · rw [if_pos ((ly_bt P (by omega)).mpr hx), k3.2.1 w (by omega) hx]
      rw [e1, nI_1]
      exact ih (w + 1) (by omega)
  have s57 : ∀ (h0 : Int64), (∀ g', Kp scA g0 g' → Q (dg6 (NT bv n) sh tk m f t P sc S li L (dg5 (NT bv n) sh tk P (dg4 (NT bv n) tk hd f t P (dg3 (NT bv n) hd P (dg2 (NT bv n) P h0))))) g') → ∀ (g : Sg), StD g0 (NT bv n) P g → ∀ (d p : Nat), p + d = (NT bv n).1 → Hm_digest_57 (fld (fun p h => pmx (NT bv n) P p 5 h) p h0) (nI p) g Q := by
    intro h0 hq g hst d
    obtain ⟨k1, k2, k3⟩ := id hst
    induction d with
    | zero =>
      intro p hp
      have hpn : p = (NT bv n).1 := by omega
      refine Vm_digest_57 ?_
      rw [k2.2.1, hpn]
      have hz := s121 (dg2 (NT bv n) P h0) hq g hst 16 0 (by omega)
      rw [fld_0] at hz
      exact brT (nI_le (Nat.le_refl _) (by omega)) hz
    | succ d ih =>
      intro p hp
      have hpn : p < (NT bv n).1 := by omega
      have h3 := k2.2.2 p hpn
      refine Vm_digest_57 ?_
      rw [k2.2.1]
      refine brF (nI_ge hpn (by omega)) ?_
      have inn : ∀ (c k : Nat), k + c = 4 → Hm_digest_68 (pmx (NT bv n) P p k (fld (fun p h => pmx (NT bv n) P p 5 h) p h0)) (nI p) (nI k) g Q := by
        intro c
        induction c with
        | zero =>
          intro k hk
          have : k = 4 := by omega
          subst this
          refine Vm_digest_68 (brT (by decide) ⟨vp_in_nI (by omega) (by omega), ?_⟩)
          rw [nI_clamp (show p < 2 ^ 31 by omega), k3.2.2 p (by omega), nI_1]
          exact ih (p + 1) (by omega)
        | succ c ih2 =>
          intro k hk
          have e4 : 4 * nI p + nI k = nI (4 * p + k) := by rw [show 4 * nI p = nI (4 * p) from pk_mul 4 p, nI_add]
          refine Vm_digest_68 (brF (fun hx => ?_) ?_)
          · have := (nI_leI (a := 4) (b := k) (by omega) (by omega)).mp hx
            omega
          rw [e4, nI_clamp (show 4 * p + k < 2 ^ 31 by omega), nI_1]
          have ev : g 40 (4 * p + k) = nI (ppV (NT bv n) P p k) := by
            rcases (show k = 0 ∨ k = 1 ∨ k = 2 ∨ k = 3 by omega) with h | h | h | h <;> subst h
            · exact h3.1
            · exact h3.2.1
            · exact h3.2.2.1
            · exact h3.2.2.2
          rw [ev]
          exact ⟨vp_in_nI (by omega) (by omega), ih2 (k + 1) (by omega)⟩
      exact inn 4 0 (by omega)
  have s6 : ∀ (d k : Nat) (g : Sg), k + d = 8 → Kp scA g0 g → Hm_digest_6 (fld (fun k h => mx h (cnt (NT bv n) n m (dn (NT bv n) sh tk f t m) P mc sc (g0 34 4) (nI k))) k 17) (nI k) g Q := by
    intro d
    induction d with
    | zero =>
      intro k g hk hkp
      have h8 : k = 8 := by omega
      subst h8
      have hX1 := hX.sc hkp
      refine Vm_digest_6 (brT (by decide) (Sm_reads hX1.2.1 _ (fun g1 f1 f2 hN1 => Vm_judged ((hX1.sc (Kp.rd f1 f2)).goesAll (fun g2 hk2 hN2 hG2 _ h17 => ?_)))))
      rw [h17]
      have hkp2 : Kp scA g0 g2 := (hkp.tr (Kp.rd f1 f2)).tr hk2
      rw [← hP] at hG2
      exact s57 (dg1 (NT bv n) n (flt bv n) (fnd (NT bv n) sh tk f t m) m (dn (NT bv n) sh tk f t m) P mc sc (g0 34 4)) hQ g2 ⟨hkp2, hN2, hG2⟩ (NT bv n).1 0 (by omega)
    | succ d ih =>
      intro k g hk hkp
      refine Vm_digest_6 (brF (fun hx => ?_) (Sm_count (hX.sc hkp) ((hkp 34 26 rfl).trans j2) ((hkp 34 28 rfl).trans j4) (fun g1 hk1 _ _ => ?_)))
      · have := (nI_leI (a := 8) (b := k) (by omega) (by omega)).mp hx
        omega
      · rw [nI_1, hkp 34 4 rfl, ← hP]
        exact ih (k + 1) g1 (by omega) (hkp.tr hk1)
  exact Vm_digest (s6 8 0 g0 (by omega) (Kp.rf _ _))
theorem op_digest {g : Sg} {Q : Int64 → Int64 → Sg → Prop} (hR : Rel g) (hQ : ∀ r g', Rel g' → Q r r g') : Cx_digest g (fun r g1 => Cm_digest g1 (fun r' g2 => Q r r' g2)) := by
  obtain ⟨⟨bv, n, sh, tk, hd, m, f, t, hX⟩, hJ, hSh⟩ := id hR
  obtain ⟨mc, sc, hmc, hsc, j1, j2, j3, j4, hj, hs⟩ := id hJ
  refine Sx_digest hX hmc hsc j1 j3 hj (fun g1 hk1 => ?_)
  have el : lieT g1 (pw (NT bv n) sh tk f t m) = lieT g (pw (NT bv n) sh tk f t m) := by
    funext i
    unfold lieT
    rw [hk1.cell 27 (fun _ => rfl), hk1.cell 28 (fun _ => rfl), hk1.cell 12 (fun _ => rfl), hk1.cell 13 (fun _ => rfl)]
  refine Sm_digest (S := g 29) (hX.sc hk1) hmc hsc ((hk1 34 26 rfl).trans j2) ((hk1 34 28 rfl).trans j4) (fun i hi => (hk1 54 i rfl).trans (hs i hi).symm) (fun i hi => ?_) (fun g2 hk2 => ?_)
  · rw [hk1.cell 27 (fun _ => rfl), hk1.cell 28 (fun _ => rfl), hk1.cell 53 (fun _ => rfl)]; exact hj i hi
  · rw [el, hk1 34 4 rfl, ← hSh.1]
    exact hQ _ _ ((hR.sc hk1).sc hk2)
