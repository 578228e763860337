/-! shortest -/
theorem RelX.cway {g : Sg} {bv : Nat → Nat} {n : Nat} {sh : Int32} {tk hd m : Nat} {f t : Nat → Int32} (h : RelX g bv n sh tk hd m f t) {a b : Nat} (ha : a < 8) (hb : b < 8) (hab : a ≠ b) {Q : Int32 → Sg → Prop}
    (hq : ∀ g', (∀ k, k ≠ 7 → k ≠ 8 → k ≠ 9 → k ≠ 10 → g' k = g k) → RowAt g' (way (NT bv n) (opn sh tk (pw (NT bv n) sh tk f t m)) a b) → ((way (NT bv n) (opn sh tk (pw (NT bv n) sh tk f t m)) a b = [] → Q 0 g') ∧ (way (NT bv n) (opn sh tk (pw (NT bv n) sh tk f t m)) a b ≠ [] → Q 1 g'))) : Cx_findWay (nI a) (nI b) g Q := by
  have hpc := h.pc (Nat.le_refl m)
  obtain ⟨hC, hM, hSet, hSt, hB⟩ := id h
  have hm := hSt.2.2.1
  have htk := hSet.2.2.2.2.2.2.1
  have hN := hC.net
  have h16 := hN.1.1
  refine Vx_findWay (Vb_loadNow ?_)
  rw [hSt.1, nI_clamp (show m < 2 ^ 31 by omega)]
  refine ⟨vp_in_nI (by omega) (by omega), Sb_fillLoad (fun g2 hfr2 hL2 => ?_)⟩
  have hN2 : NC (NT bv n) g2 := hN.of (hfr2 1 (by decide)) (hfr2 3 (by decide)) (hfr2 4 (by decide)) (hfr2 5 (by decide)) (hfr2 6 (by decide))
  have hL2' : ∀ q, q < 16 → g2 8 q = nI (ld (pw (NT bv n) sh tk f t m) q) := fun q hq16 => by
    rw [hL2 q hq16, ld_congr hpc]
  have hO : ∀ p, p < (NT bv n).1 → OC g2 p = opn sh tk (pw (NT bv n) sh tk f t m) p := fun p hp => oc_opn (by rw [hfr2 1 (by decide)]; exact hSet.1) (by rw [hfr2 1 (by decide)]; exact hSet.2.2.2.1) (by omega) hL2' (by omega)
  have hway := way_cg hN.1 hO ha hb
  refine Sw_find hN2 ha hb hab (fun g5 hfr5 hrow => ?_)
  rw [hway] at hrow ⊢
  obtain ⟨k1, k2⟩ := hq g5 (fun c c7 c8 c9 c10 => (hfr5 c c7 c9 c10).trans (hfr2 c c8)) hrow
  exact ⟨fun he => ⟨by decide, k1 he⟩, fun he => ⟨by decide, k2 he⟩⟩
theorem RelX.mway {g g1 : Sg} {bv : Nat → Nat} {n : Nat} {sh : Int32} {tk hd m : Nat} {f t : Nat → Int32} (h : RelX g bv n sh tk hd m f t) (hk : Kp scA g g1) (hN : NM (NT bv n) g1) (hG : MG g1 (pw (NT bv n) sh tk f t m)) {a b : Nat} (ha : a < 8) (hb : b < 8) (hab : a ≠ b) {Q : Int32 → Sg → Prop}
    (hq : ∀ g', (∀ k, k ≠ 45 → k ≠ 46 → g' k = g1 k) → WayAt g' (way (NT bv n) (opn sh tk (pw (NT bv n) sh tk f t m)) a b) → ((way (NT bv n) (opn sh tk (pw (NT bv n) sh tk f t m)) a b = [] → Q (-1) g') ∧ (way (NT bv n) (opn sh tk (pw (NT bv n) sh tk f t m)) a b ≠ [] → g' 45 a = nI (((way (NT bv n) (opn sh tk (pw (NT bv n) sh tk f t m)) a b).map (nL (NT bv n))).sum) → Q (nI (way (NT bv n) (opn sh tk (pw (NT bv n) sh tk f t m)) a b).length) g'))) : Cm_findWay (nI a) (nI b) g1 Q := by
  obtain ⟨hC, hM, hSet, hSt, hB⟩ := id h
  have htk := hSet.2.2.2.2.2.2.1
  have h16 := hN.1.1
  have hO : ∀ p, p < (NT bv n).1 → OM g1 p = opn sh tk (pw (NT bv n) sh tk f t m) p := fun p hp => om_opn ((hk 41 0 rfl).trans hSet.2.1) ((hk 41 1 rfl).trans hSet.2.2.2.2.1) (by omega) hG.2.2 (by omega)
  have hway := way_cg hN.1 hO ha hb
  refine Sm_findWay hN ha hb hab (fun g5 hfr5 hrow => ?_)
  have hwo := way_ok hN.1 (OM g1) ha hb
  rw [hway] at hrow hwo ⊢
  obtain ⟨k1, k2⟩ := hq g5 hfr5 hrow
  refine ⟨k1, fun hne h45 => k2 hne ?_⟩
  by_cases hl : dst (NT bv n) (OM g1) b a < 1000
  · rw [(hwo.2.2.2.1 hl).1]; exact h45
  · exact absurd (hwo.2.2.2.2 hl) hne
theorem Sw_rowLength {N : Net} {g : Sg} {l : List Nat} {Q : Int32 → Sg → Prop} (hN : NC N g) (hr : RowAt g l) (hl : l.length ≤ 8) (hm : ∀ p ∈ l, p < N.1) (hQ : Q (nI ((l.map (nL N)).sum)) g) : Cw_rowLength g Q := by
  have h16 := hN.1.1
  have loop : ∀ (d j : Nat), j + d = l.length → Hw_rowLength_4 (nI (((l.take j).map (nL N)).sum)) (nI j) g Q := by
    intro d
    induction d with
    | zero =>
      intro j hj
      have hjl : j = l.length := by omega
      refine Vw_rowLength_4 ?_
      rw [hr.1, hjl, List.take_length]
      exact brT (nI_le (Nat.le_refl _) (by omega)) hQ
    | succ d ih =>
      intro j hj
      have hjl : j < l.length := by omega
      have h1 := ih (j + 1) (by omega)
      have hp := hm _ (getD_mem hjl)
      rw [take_snoc hjl, List.map_append, List.sum_append] at h1
      refine Vw_rowLength_4 ?_
      rw [hr.1, nI_1, nI_clamp (show j < 2 ^ 31 by omega), hr.2 j hjl, nI_clamp (show l.getD j 0 < 2 ^ 31 by omega), (hN.2.2 _ hp).2.2.1, nI_add]
      refine brF (nI_ge hjl (by omega)) ⟨vp_in_nI (by omega) (by omega), vp_in_nI (by omega) (by omega), ?_⟩
      simpa using h1
  have h0 := loop l.length 0 (by omega)
  exact Vw_rowLength h0
theorem op_shortest {x1 x2 x3 : Int32} {g : Sg} {Q : Int32 → Int32 → Sg → Prop} (hR : Rel g) (hQ : ∀ r g', Rel g' → Q r r g') : Cx_shortest x1 x2 x3 g (fun r g1 => Cm_shortest x1 x2 x3 g1 (fun r' g2 => Q r r' g2)) := by
  obtain ⟨⟨bv, n, sh, tk, hd, m, f, t, hX⟩, hJ, hSh⟩ := id hR
  have z1 : (-1 : Int32).toInt = -1 := by decide
  by_cases h1 : twoE x1 x2
  · by_cases h3 : (-1) ≤ x3
    · obtain ⟨a, b, ha, hb, hab, rfl, rfl⟩ := twoE_of h1
      have hnlt : ¬ x3 < -1 := Int32.not_lt.mpr h3
      refine Vx_shortest (brT h1 (brT h3 (hX.cway ha hb hab (fun g1 hf1 hrow => ?_))))
      have hk1 : Kp scA g g1 := fun k j hk => by
        rw [hf1 k (fun hx => by subst hx; simp [scA] at hk) (fun hx => by subst hx; simp [scA] at hk) (fun hx => by subst hx; simp [scA] at hk) (fun hx => by subst hx; simp [scA] at hk)]
      have hX1 := hX.sc hk1
      have hR1 := hR.sc hk1
      have hN1 := hX1.1.net
      have h16 := hN1.1.1
      obtain ⟨w1, w2, w3, -⟩ := way_ok hN1.1 (opn sh tk (pw (NT bv n) sh tk f t m)) ha hb
      have fin : ∀ r : Int32, (∀ g', Rel g' → WayAt g' (way (NT bv n) (opn sh tk (pw (NT bv n) sh tk f t m)) a b) → ((way (NT bv n) (opn sh tk (pw (NT bv n) sh tk f t m)) a b = [] → Q r (-1) g') ∧ (way (NT bv n) (opn sh tk (pw (NT bv n) sh tk f t m)) a b ≠ [] → ((x3 = (-1) → Q r (nI (((way (NT bv n) (opn sh tk (pw (NT bv n) sh tk f t m)) a b).map (nL (NT bv n))).sum)) g') ∧ (¬ x3 = (-1) → ((nI (way (NT bv n) (opn sh tk (pw (NT bv n) sh tk f t m)) a b).length ≤ x3 → Q r (-1) g') ∧ (¬ nI (way (NT bv n) (opn sh tk (pw (NT bv n) sh tk f t m)) a b).length ≤ x3 → vp_in x3 16 ∧ Q r (g' 46 x3.toNatClampNeg) g'))))))) → Cm_shortest (nI a) (nI b) x3 g1 (fun r' g2 => Q r r' g2) := by
        intro r hr
        refine Vm_shortest (hX1.goesAll (fun g2 hk2 hN2 hG2 _ _ => brT h1 (brF hnlt (Vm_shortestOf (hX1.mway hk2 hN2 hG2 ha hb hab (fun g3 hf3 hw3 => ?_))))))
        have hR3 : Rel g3 := (hR1.sc hk2).sc (fun k j hk => by rw [hf3 k (fun hx => by subst hx; simp [scA] at hk) (fun hx => by subst hx; simp [scA] at hk)])
        obtain ⟨q1, q2⟩ := hr g3 hR3 hw3
        refine ⟨fun he => brT rfl (q1 he), fun he h45 => brF (fun hx => m1_nI (show (way (NT bv n) (opn sh tk (pw (NT bv n) sh tk f t m)) a b).length < 2 ^ 31 by omega) hx.symm) ⟨fun hx => ⟨vp_in_nI (by omega) (by omega), ?_⟩, (q2 he).2⟩⟩
        rw [nI_clamp (show a < 2 ^ 31 by omega), h45]
        exact (q2 he).1 hx
      generalize way (NT bv n) (opn sh tk (pw (NT bv n) sh tk f t m)) a b = W at *
      refine ⟨fun he => brT rfl (fin _ (fun g' hg' _ => brT he (hQ _ _ hg'))), fun he => brF (by decide) ?_⟩
      by_cases h30 : x3 = -1
      · exact brT h30 (Sw_rowLength hN1 hrow (by omega) (fun p hp => (w3 p hp).1) (fin _ (fun g' hg' _ => brF he (brT h30 (hQ _ _ hg')))))
      · refine brF h30 ?_
        rw [hrow.1]
        by_cases hc : nI W.length ≤ x3
        · exact brT hc (fin _ (fun g' hg' _ => brF he (brF h30 (brT hc (hQ _ _ hg')))))
        · have hx3 : ∃ j : Nat, j < W.length ∧ x3 = nI j := by
            have hneg : ¬ x3 < 0 := fun hx => by
              rw [Int32.lt_iff_toInt_lt] at hx
              rw [Int32.le_iff_toInt_le, z1] at h3
              have z0 : (0 : Int32).toInt = 0 := by decide
              exact h30 (Int32.toInt_inj.mp (by rw [z1]; omega))
            obtain ⟨j, hj, e⟩ := rng (n := W.length) (by omega) ⟨Int32.not_lt.mp hneg, Int32.le_of_lt (Int32.not_le.mp hc)⟩
            subst e
            refine ⟨j, ?_, rfl⟩
            rcases Nat.lt_or_ge j W.length with hl | hl
            · exact hl
            · exact absurd (nI_le hl (by omega)) hc
          obtain ⟨j, hj, rfl⟩ := hx3
          refine brF hc ⟨vp_in_nI (by omega) (by omega), ?_⟩
          rw [nI_clamp (show j < 2 ^ 31 by omega), hrow.2 j hj]
          refine fin _ (fun g' hg' hw' => brF he (brF h30 (brF hc ⟨vp_in_nI (by omega) (by omega), ?_⟩)))
          rw [nI_clamp (show j < 2 ^ 31 by omega), hw' j hj]
          exact hQ _ _ hg'
    · exact Vx_shortest (brT h1 (brF h3 (Vm_shortest (hX.goesAll (fun g' hk' _ _ _ _ => brT h1 (brT (Int32.not_le.mp h3) (hQ _ _ (hR.sc hk')))))))) 
  · exact Vx_shortest (brF h1 (Vm_shortest (hX.goesAll (fun g' hk' _ _ _ _ => brF h1 (hQ _ _ (hR.sc hk'))))))
