/-! meet -/
theorem dif {a b : Nat} (ha : a ≤ 999) (hb : b ≤ 999) : (nI a - nI b).toInt = (a : Int) - b ∧ (0 - (nI a - nI b)).toInt = (b : Int) - a ∧ (-(nI a - nI b)).toInt = (b : Int) - a := by
  have h1 : (nI a - nI b).toInt = (a : Int) - b := by
    rw [Int32.toInt_sub, nI_toInt (by omega), nI_toInt (by omega)]
    exact Int.bmod_eq_of_le (by omega) (by omega)
  refine ⟨h1, ?_, ?_⟩
  · rw [Int32.toInt_sub, h1]
    have : (0 : Int32).toInt = 0 := by decide
    rw [this]
    rw [Int.bmod_eq_of_le (by omega) (by omega)]
    omega
  · rw [Int32.toInt_neg, h1]
    rw [Int.bmod_eq_of_le (by omega) (by omega)]
    omega
theorem op_meet {x1 x2 x3 x4 : Int32} {g : Sg} {Q : Int32 → Int32 → Sg → Prop} (hR : Rel g) (hQ : ∀ r g', Rel g' → Q r r g') : Cx_meet x1 x2 x3 x4 g (fun r g1 => Cm_meet x1 x2 x3 x4 g1 (fun r' g2 => Q r r' g2)) := by
  obtain ⟨⟨bv, n, sh, tk, hd, m, f, t, hX⟩, hJ, hSh⟩ := id hR
  obtain ⟨hC, hM, hSet, hSt, hB⟩ := id hX
  have hnet := hC.net
  have hN16 := hnet.1.1
  have rd : ∀ {Q' : Int32 → Sg → Prop}, (∀ r g', Kp scA g g' → NM (NT bv n) g' → Q' r g') → Cm_reads g Q' := fun hq => Sm_reads hM _ (fun g' f1 f2 hN => hq _ g' (fun k j hk => by
    by_cases h34 : k = 34
    · subst h34
      simp [scA] at hk
      exact f2 j (by omega) (by omega)
    · have h40 : k ≠ 40 := fun hx => by subst hx; simp [scA] at hk
      rw [f1 k h34 h40]) hN)
  refine Vx_meet ?_
  rw [hnet.2.1]
  by_cases h1 : 0 ≤ x1 ∧ x1 ≤ nI (NT bv n).1 - 1
  · have hpos : 1 ≤ (NT bv n).1 := by
      rcases Nat.eq_zero_or_pos (NT bv n).1 with h0 | h0
      · rw [h0] at h1
        exact absurd (Int32.le_trans h1.1 h1.2) (by decide)
      · exact h0
    have h1' := h1
    rw [show nI (NT bv n).1 - 1 = nI ((NT bv n).1 - 1) from pk_sub (a := (NT bv n).1) (b := 1) hpos] at h1'
    refine brT h1 ?_
    by_cases h4 : 0 ≤ x4 ∧ x4 ≤ 1
    · refine brT h4 ?_
      by_cases h2 : 0 ≤ x2 ∧ x2 ≤ 999
      · refine brT h2 ?_
        by_cases h3 : 0 ≤ x3 ∧ x3 ≤ 999
        · refine brT h3 ?_
          obtain ⟨p, hp, rfl⟩ := rng (by omega) h1'
          obtain ⟨a, ha, rfl⟩ := rng (n := 999) (by omega) h2
          obtain ⟨b, hb, rfl⟩ := rng (n := 999) (by omega) h3
          have hpn : p < (NT bv n).1 := by omega
          have hl := (hnet.1.2 p hpn).2.2.2
          rw [nI_clamp (show p < 2 ^ 31 by omega), (hnet.2.2 p hpn).2.2.1]
          refine ⟨vp_in_nI (by omega) (by omega), ?_⟩
          have fin : ∀ r : Int32, (∀ (g' : Sg), Rel g' → ((nI (nL (NT bv n) p) ≤ nI b - nI a → Q r (-1) g') ∧ (¬ nI (nL (NT bv n) p) ≤ nI b - nI a → ((-(nI b - nI a) < nI (nL (NT bv n) p) → ((x4 = 0 → Q r (nI (nL (NT bv n) p) + (nI b - nI a)) g') ∧ (¬ x4 = 0 → ((nI b - nI a ≤ 0 → Q r 0 g') ∧ (¬ nI b - nI a ≤ 0 → Q r 1 g'))))) ∧ (¬ -(nI b - nI a) < nI (nL (NT bv n) p) → Q r (-1) g'))))) → Cm_meet (nI p) (nI a) (nI b) x4 g (fun r' g2 => Q r r' g2) := by
            intro r hr
            refine Vm_meet (rd (fun _ g' hk' hN' => ?_))
            rw [hN'.2.1]
            refine brT h1 (brT h2 (brT h3 (brT h4 (Vm_meetOf ?_))))
            rw [show 4 * nI p = nI (4 * p) from pk_mul 4 p, show nI (4 * p) + 2 = nI (4 * p + 2) from nI_add _ 2, nI_clamp (show 4 * p + 2 < 2 ^ 31 by omega), (hN'.2.2 p hpn).2.2.1]
            exact ⟨vp_in_nI (by omega) (by omega), hr g' (hR.sc hk')⟩
          generalize nL (NT bv n) p = l at hl fin ⊢
          obtain ⟨d1, d2, d3⟩ := dif ha hb
          obtain ⟨e1, e2, e3⟩ := dif hb ha
          have hlI := nI_toInt (show l < 2 ^ 31 by omega)
          have z0 : (0 : Int32).toInt = 0 := by decide
          have habs : (if 0 ≤ nI a - nI b then nI a - nI b else 0 - (nI a - nI b)) < nI l ↔ ((a : Int) - b < l ∧ (b : Int) - a < l) := by
            by_cases hc : 0 ≤ nI a - nI b
            · rw [if_pos hc, Int32.lt_iff_toInt_lt, d1, hlI]
              rw [Int32.le_iff_toInt_le, d1, z0] at hc
              omega
            · rw [if_neg hc, Int32.lt_iff_toInt_lt, d2, hlI]
              rw [Int32.le_iff_toInt_le, d1, z0] at hc
              omega
          have m1 : nI l ≤ nI b - nI a ↔ (l : Int) ≤ b - a := by rw [Int32.le_iff_toInt_le, e1, hlI]
          have m2 : -(nI b - nI a) < nI l ↔ (a : Int) - b < l := by rw [Int32.lt_iff_toInt_lt, e3, hlI]
          have m3 : nI b - nI a ≤ 0 ↔ b ≤ a := by rw [Int32.le_iff_toInt_le, e1, z0]; omega
          have c3 : nI b ≤ nI a ↔ b ≤ a := nI_leI (by omega) (by omega)
          by_cases hm : (a : Int) - b < l ∧ (b : Int) - a < l
          · refine brT (habs.mpr hm) ?_
            have go : ∀ r : Int32, (∀ g', Rel g' → ((x4 = 0 → Q r (nI l + (nI b - nI a)) g') ∧ (¬ x4 = 0 → ((nI b - nI a ≤ 0 → Q r 0 g') ∧ (¬ nI b - nI a ≤ 0 → Q r 1 g'))))) → Cm_meet (nI p) (nI a) (nI b) x4 g (fun r' g2 => Q r r' g2) := fun r hr => fin r (fun g' hg' => brF (fun hx => by have := m1.mp hx; omega) (brT (m2.mpr hm.1) (hr g' hg')))
            by_cases h40 : x4 = 0
            · refine brT h40 (go _ (fun g' hg' => brT h40 ?_))
              rw [show nI l + nI b - nI a = nI l + (nI b - nI a) by rw [Int32.sub_eq_add_neg, Int32.sub_eq_add_neg, Int32.add_assoc]]
              exact hQ _ _ hg'
            · refine brF h40 ?_
              by_cases hc : b ≤ a
              · exact brT (c3.mpr hc) (go _ (fun g' hg' => brF h40 (brT (m3.mpr hc) (hQ _ _ hg'))))
              · exact brF (fun hx => hc (c3.mp hx)) (go _ (fun g' hg' => brF h40 (brF (fun hx => hc (m3.mp hx)) (hQ _ _ hg'))))
          · refine brF (fun hx => hm (habs.mp hx)) (fin _ (fun g' hg' => ?_))
            by_cases hc : (l : Int) ≤ b - a
            · exact brT (m1.mpr hc) (hQ _ _ hg')
            · exact brF (fun hx => hc (m1.mp hx)) (brF (fun hx => hm ⟨m2.mp hx, by omega⟩) (hQ _ _ hg'))
        · refine brF h3 (Vm_meet (rd (fun _ g' hk' hN' => ?_)))
          rw [hN'.2.1]
          exact brT h1 (brT h2 (brF h3 (hQ _ _ (hR.sc hk'))))
      · refine brF h2 (Vm_meet (rd (fun _ g' hk' hN' => ?_)))
        rw [hN'.2.1]
        exact brT h1 (brF h2 (hQ _ _ (hR.sc hk')))
    · refine brF h4 (Vm_meet (rd (fun _ g' hk' hN' => ?_)))
      rw [hN'.2.1]
      refine brT h1 ⟨fun h2 => ⟨fun h3 => brF h4 (hQ _ _ (hR.sc hk')), fun _ => hQ _ _ (hR.sc hk')⟩, fun _ => hQ _ _ (hR.sc hk')⟩
  · refine brF h1 (Vm_meet (rd (fun _ g' hk' hN' => ?_)))
    rw [hN'.2.1]
    exact brF h1 (hQ _ _ (hR.sc hk'))
