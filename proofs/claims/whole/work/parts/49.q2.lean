/-! state, pipe -/
theorem RelX.pc {g : Sg} {bv : Nat → Nat} {n : Nat} {sh : Int32} {tk hd m : Nat} {f t : Nat → Int32} (h : RelX g bv n sh tk hd m f t) {k : Nat} (hk : k ≤ m) : ∀ w, w < 16 → PC g (g 14 k) w = pw (NT bv n) sh tk f t k w := fun w hw => by
  rw [(h.2.2.2.2 k hk).1]
  exact PC_ly (h.2.2.2.2 k hk).2 hw
theorem op_state {x1 x2 : Int32} {g : Sg} {Q : Int32 → Int32 → Sg → Prop} (hR : Rel g) (hQ : ∀ r g', Rel g' → Q r r g') : Cx_state x1 x2 g (fun r g1 => Cm_state x1 x2 g1 (fun r' g2 => Q r r' g2)) := by
  obtain ⟨⟨bv, n, sh, tk, hd, m, f, t, hX⟩, hJ, hSh⟩ := id hR
  obtain ⟨hC, hM, hSet, hSt, hB⟩ := id hX
  have hm := hSt.2.2.1
  have hnet := hC.net
  refine Vx_state ?_
  rw [hSt.1]
  by_cases h1 : 0 ≤ x1 ∧ x1 ≤ nI m
  · refine brT h1 ?_
    obtain ⟨k, hk, rfl⟩ := rng (by omega) h1
    rw [nI_clamp (show k < 2 ^ 31 by omega)]
    by_cases h20 : x2 = 0
    · refine brT h20 ⟨vp_in_nI (by omega) (by omega), Vm_state ?_⟩
      rw [hSt.2.1]
      refine brT h1 (brT (by rw [h20]; decide) (Vm_stateOf (hX.goes hk (fun g' hk' _ hG _ _ => brT h20 ?_))))
      rw [hG.1, (hB k hk).1]
      exact hQ _ _ (hR.sc hk')
    · refine brF h20 ?_
      by_cases h21 : x2 = 1
      · refine brT h21 ⟨vp_in_nI (by omega) (by omega), Sb_fullPipes (N := NT bv n) (P := pw (NT bv n) sh tk f t k) (tk := tk) hnet.1.1 hnet.2.1 hSet.2.2.2.1 hSet.2.2.2.2.2.2.1 (hX.pc hk) (Vm_state ?_)⟩
        rw [hSt.2.1]
        refine brT h1 (brT (by rw [h21]; decide) (Vm_stateOf (hX.goes hk (fun g' hk' hN' hG _ _ => brF h20 ?_))))
        exact Sm_fullNow (N := NT bv n) (P := pw (NT bv n) sh tk f t k) (tk := tk) hN'.1.1 hN'.2.1 ((hk' 41 1 rfl).trans hSet.2.2.2.2.1) hSet.2.2.2.2.2.2.1 hG.2.2 (hQ _ _ (hR.sc hk'))
      · refine brF h21 (Vm_state ?_)
        rw [hSt.2.1]
        refine brT h1 (brF (fun hx => ?_) (hQ _ _ hR))
        obtain ⟨j, hj, rfl⟩ := rng (n := 1) (by omega) hx
        rcases (show j = 0 ∨ j = 1 by omega) with h | h <;> subst h
        · exact h20 rfl
        · exact h21 rfl
  · refine brF h1 (Vm_state ?_)
    rw [hSt.2.1]
    exact brF h1 (hQ _ _ hR)
theorem i5 {x : Int32} (h : 0 ≤ x ∧ x ≤ 4) : x = 0 ∨ x = 1 ∨ x = 2 ∨ x = 3 ∨ x = 4 := by
  obtain ⟨j, hj, rfl⟩ := rng (n := 4) (by omega) h
  rcases (show j = 0 ∨ j = 1 ∨ j = 2 ∨ j = 3 ∨ j = 4 by omega) with h | h | h | h | h <;> subst h <;> decide
theorem sw_out {x : Int32} {n : Nat} (hn : n < 2 ^ 31) (h : x.toInt < 0 ∨ (n : Int) < x.toInt) : ¬ (0 ≤ x ∧ x ≤ nI n) := fun hx => by
  obtain ⟨j, hj, rfl⟩ := rng hn hx
  rw [nI_toInt (by omega)] at h
  omega
theorem op_pipe {x1 x2 : Int32} {g : Sg} {Q : Int32 → Int32 → Sg → Prop} (hR : Rel g) (hQ : ∀ r g', Rel g' → Q r r g') : Cx_pipe x1 x2 g (fun r g1 => Cm_pipe x1 x2 g1 (fun r' g2 => Q r r' g2)) := by
  obtain ⟨⟨bv, n, sh, tk, hd, m, f, t, hX⟩, hJ, hSh⟩ := id hR
  obtain ⟨hC, hM, hSet, hSt, hB⟩ := id hX
  have hm := hSt.2.2.1
  have hnet := hC.net
  have hN16 := hnet.1.1
  refine Vx_pipe ?_
  rw [hnet.2.1]
  by_cases h1 : 0 ≤ x1 ∧ x1 ≤ nI (NT bv n).1 - 1
  · refine brT h1 ?_
    have hpos : 1 ≤ (NT bv n).1 := by
      rcases Nat.eq_zero_or_pos (NT bv n).1 with h0 | h0
      · rw [h0] at h1
        exact absurd (Int32.le_trans h1.1 h1.2) (by decide)
      · exact h0
    have h1' := h1
    rw [show nI (NT bv n).1 - 1 = nI ((NT bv n).1 - 1) from pk_sub (a := (NT bv n).1) (b := 1) hpos] at h1'
    obtain ⟨p, hp, rfl⟩ := rng (by omega) h1'
    have hpn : p < (NT bv n).1 := by omega
    have fin : ∀ (r : Int32), (0 ≤ x2 ∧ x2 ≤ 4) → ((x2 = 4 → r = nI (ld (pw (NT bv n) sh tk f t m) p)) ∧ (x2 = 0 → r = nI (nA (NT bv n) p)) ∧ (x2 = 1 → r = nI (nB (NT bv n) p)) ∧ (x2 = 2 → r = nI (nL (NT bv n) p)) ∧ (x2 = 3 → r = nI (nD (NT bv n) p))) → Cm_pipe (nI p) x2 g (fun r' g2 => Q r r' g2) := by
      intro r hx2 hr
      refine Vm_pipe (hX.goesAll (fun g' hk' hN' hG _ _ => ?_))
      rw [hN'.2.1]
      refine brT h1 (brT hx2 ?_)
      have a0 := hN'.2.2 p hpn
      have cl : ∀ i : Nat, i < 4 → (4 * nI p + nI i).toNatClampNeg = 4 * p + i ∧ vp_in (4 * nI p + nI i) 64 := fun i hi => by
        rw [show 4 * nI p = nI (4 * p) from pk_mul 4 p, nI_add, nI_clamp (show 4 * p + i < 2 ^ 31 by omega)]
        exact ⟨rfl, vp_in_nI (by omega) (by omega)⟩
      rcases i5 hx2 with hx | hx | hx | hx | hx
      · refine brF (by rw [hx]; decide) ?_
        rw [hr.2.1 hx, hx, show (0 : Int32) = nI 0 from rfl, (cl 0 (by omega)).1]
        refine ⟨(cl 0 (by omega)).2, ?_⟩
        rw [show 4 * p + 0 = 4 * p from rfl, a0.1]
        exact hQ _ _ (hR.sc hk')
      · refine brF (by rw [hx]; decide) ?_
        rw [hr.2.2.1 hx, hx, show (1 : Int32) = nI 1 from rfl, (cl 1 (by omega)).1]
        refine ⟨(cl 1 (by omega)).2, ?_⟩
        rw [a0.2.1]
        exact hQ _ _ (hR.sc hk')
      · refine brF (by rw [hx]; decide) ?_
        rw [hr.2.2.2.1 hx, hx, show (2 : Int32) = nI 2 from rfl, (cl 2 (by omega)).1]
        refine ⟨(cl 2 (by omega)).2, ?_⟩
        rw [a0.2.2.1]
        exact hQ _ _ (hR.sc hk')
      · refine brF (by rw [hx]; decide) ?_
        rw [hr.2.2.2.2 hx, hx, show (3 : Int32) = nI 3 from rfl, (cl 3 (by omega)).1]
        refine ⟨(cl 3 (by omega)).2, ?_⟩
        rw [a0.2.2.2]
        exact hQ _ _ (hR.sc hk')
      · refine brT hx ⟨vp_in_nI (by omega) (by omega), ?_⟩
        rw [hr.1 hx, nI_clamp (show p < 2 ^ 31 by omega), hG.2.2 p (by omega)]
        exact hQ _ _ (hR.sc hk')
    have c0 := hnet.2.2 p hpn
    rw [nI_clamp (show p < 2 ^ 31 by omega), hSt.1]
    have ip : vp_in (nI p) 16 := vp_in_nI (by omega) (by omega)
    refine ⟨fun hx => Vm_pipe (hX.goesAll (fun g' hk' hN' hG _ _ => ?_)), fun hx => ⟨ip, ?_⟩, fun hx => ⟨ip, ?_⟩, fun hx => ⟨ip, ?_⟩, fun hx => ⟨ip, ?_⟩, fun hx => ⟨vp_in_nI (by omega) (by omega), Sb_wiresIn (by omega) ?_⟩⟩
    · rw [hN'.2.1]
      exact brT h1 (brF (sw_out (n := 4) (by omega) hx) (hQ _ _ (hR.sc hk')))
    · rw [c0.1]
      subst hx
      exact fin _ (by decide) ⟨fun hh => absurd hh (by decide), fun _ => rfl, fun hh => absurd hh (by decide), fun hh => absurd hh (by decide), fun hh => absurd hh (by decide)⟩
    · rw [c0.2.1]
      subst hx
      exact fin _ (by decide) ⟨fun hh => absurd hh (by decide), fun hh => absurd hh (by decide), fun _ => rfl, fun hh => absurd hh (by decide), fun hh => absurd hh (by decide)⟩
    · rw [c0.2.2.1]
      subst hx
      exact fin _ (by decide) ⟨fun hh => absurd hh (by decide), fun hh => absurd hh (by decide), fun hh => absurd hh (by decide), fun _ => rfl, fun hh => absurd hh (by decide)⟩
    · rw [c0.2.2.2]
      subst hx
      exact fin _ (by decide) ⟨fun hh => absurd hh (by decide), fun hh => absurd hh (by decide), fun hh => absurd hh (by decide), fun hh => absurd hh (by decide), fun _ => rfl⟩
    · subst hx
      rw [nI_clamp (show m < 2 ^ 31 by omega), ld_congr (hX.pc (Nat.le_refl m))]
      exact fin _ (by decide) ⟨fun _ => rfl, fun hh => absurd hh (by decide), fun hh => absurd hh (by decide), fun hh => absurd hh (by decide), fun hh => absurd hh (by decide)⟩
  · refine brF h1 (Vm_pipe (hX.goesAll (fun g' hk' hN' hG _ _ => ?_)))
    rw [hN'.2.1]
    exact brF h1 (hQ _ _ (hR.sc hk'))
