/-! sheets: lose, lay, get, copy -/
theorem RelX.sh {g g' : Sg} {bv : Nat → Nat} {n : Nat} {sh : Int32} {tk hd m : Nat} {f t : Nat → Int32} (h : RelX g bv n sh tk hd m f t) (hk : Kp cSh g g') : RelX g' bv n sh tk hd m f t := by
  obtain ⟨h1, h2, h3, h4, h5⟩ := h
  exact ⟨h1.fr (fun j _ _ => hk 1 j rfl) (hk.cell 2 (fun _ => rfl)) (hk.cell 3 (fun _ => rfl)) (hk.cell 4 (fun _ => rfl)) (hk.cell 5 (fun _ => rfl)) (hk.cell 6 (fun _ => rfl)), h2.fr (hk 34 6 rfl) (hk.cell 39 (fun _ => rfl)), h3.fr (hk 1 9 rfl) (hk 1 10 rfl) (hk.cell 41 (fun _ => rfl)) (hk 0 8 rfl),
    h4.fr (hk 11 6 rfl) (hk 34 11 rfl) (hk.cell 12 (fun _ => rfl)) (hk.cell 13 (fun _ => rfl)) (hk.cell 42 (fun _ => rfl)), h5.fr (hk.cell 14 (fun _ => rfl)) (hk.cell 15 (fun _ => rfl))⟩
theorem Rel.sh {g g' : Sg} (h : Rel g) (hk : Kp cSh g g') (hS : RS g') : Rel g' := by
  obtain ⟨⟨bv, n, sh, tk, hd, m, f, t, h1⟩, h2, h3⟩ := h
  exact ⟨⟨bv, n, sh, tk, hd, m, f, t, h1.sh hk⟩, h2.fr (hk.cell 26 (fun _ => rfl)) (hk 34 26 rfl) (hk 34 28 rfl) (hk.cell 27 (fun _ => rfl)) (hk.cell 28 (fun _ => rfl)) (hk.cell 29 (fun _ => rfl)) (hk.cell 53 (fun _ => rfl)) (hk.cell 54 (fun _ => rfl)), hS⟩
theorem op_sheetR {x1 x2 x3 : Int32} {g : Sg} {Q : Int32 → Int32 → Sg → Prop} (hR : Rel g) (hQ : ∀ r g', Rel g' → Q r r g') : Cx_sheet x1 x2 x3 g (fun r g1 => Cm_sheet x1 x2 x3 g1 (fun r' g2 => Q r r' g2)) :=
  op_sheet hR.2.2 (fun r g' hS hk => hQ r g' (hR.sh hk hS))
theorem ng1 : ¬ (0 : Int32) ≤ -1 := by decide
theorem op_lose {x1 : Int32} {g : Sg} {Q : Int32 → Int32 → Sg → Prop} (hR : Rel g) (hQ : ∀ r g', Rel g' → Q r r g') : Cx_lose x1 g (fun r g1 => Cm_lose x1 g1 (fun r' g2 => Q r r' g2)) := by
  have hS := hR.2.2
  by_cases hs : isS x1
  · obtain ⟨s, hs4, rfl⟩ := isS_of hs
    have hin : vp_in (nI s) 4 := vp_in_nI hs4 (by omega)
    refine Vx_lose (brT hs ⟨hin, ?_⟩)
    rw [nI_clamp (show s < 2 ^ 31 by omega)]
    rcases hS.2 s hs4 with ⟨a1, a2⟩ | ⟨f, n, f2, n60, a1, a2, a3, a4, a5⟩
    · refine brT a1 (Vm_lose (brT hs ⟨hin, ?_⟩))
      rw [nI_clamp (show s < 2 ^ 31 by omega), sg_k (by decide), a2]
      exact brF ng1 (hQ _ _ (hR.sh (Kp.find g 1) (hS.find 1)))
    · refine brF (by rw [a1]; exact nI_m1 (by omega)) ⟨hin, Vs_drop ⟨hin, hin, Vm_lose (brT hs ⟨hin, ?_⟩)⟩⟩
      rw [nI_clamp (show s < 2 ^ 31 by omega), sg_k (by decide), sg_k (by decide), a2]
      refine brT (nI_pos' (by omega)) ⟨hin, hin, ?_⟩
      rw [sg_k (by decide), sg_k (by decide), a3, a4]
      refine hQ _ _ (hR.sh ((((Kp.rf cSh g).u rfl).u rfl).u rfl) ⟨?_, fun s' hs' => ?_⟩)
      · rw [sg_k (by decide), sg_k (by decide), sg_k (by decide), sg_k (by decide), sg_k (by decide), sg_k (by decide)]; exact hS.1
      · by_cases e : s' = s
        · subst e
          left
          exact ⟨by rw [sg_k (by decide), sg_k (by decide), sg_s], by rw [sg_s]⟩
        · refine (hS.2 s' hs').of ?_ ?_ ?_ ?_ (fun i _ => ?_) (fun i _ => ?_)
          · rw [sg_k (by decide), sg_k (by decide), sg_j e]
          · rw [sg_j e, sg_k (by decide), sg_k (by decide)]
          · rw [sg_k (by decide), sg_j e, sg_k (by decide)]
          · rw [sg_k (by decide), sg_k (by decide), sg_k (by decide)]
          · rw [sg_k (by decide), sg_k (by decide), sg_k (by decide)]
          · rw [sg_k (by decide), sg_k (by decide), sg_k (by decide)]
  · exact Vx_lose (brF hs (Vm_lose (brF hs (hQ _ _ hR))))
/-- what lay and get ask first, on both sides: the finding, or an item -/
theorem find_at {s : Nat} {x2 x3 : Int32} {g : Sg} (hS : RS g) (hs4 : s < 4) {QC : Int32 → Sg → Prop}
    (hk0 : ∀ f n i : Nat, f ≤ 2 → n ≤ 60 → i < n → x3 = nI i → x2 = nI f → g 32 s = nI f → g 35 s = nI f → g 33 s = nI n → g 36 s = nI n → (∀ j, j < n → g 31 (s * 60 + j) = g 37 (s * 60 + j)) → (∀ (g1 : Sg) (QM : Int32 → Sg → Prop), (g1 35 = g 35) → g1 36 = g 36 → QM 0 g1 → Cm_lacks (nI s) x2 x3 g1 QM) → QC 0 g)
    (hk1 : ∀ fd : Int32, (fd = 1 ∨ fd = 2 ∨ fd = 3) → (∀ (g1 : Sg) (QM : Int32 → Sg → Prop), g1 35 = g 35 → g1 36 = g 36 → QM ((-10) - fd) (sgU g1 34 4 fd) → Cm_lacks (nI s) x2 x3 g1 QM) → QC fd g) : Cs_findingAt (nI s) x2 x3 g QC := by
  have hin : vp_in (nI s) 4 := vp_in_nI hs4 (by omega)
  have hcl : (nI s).toNatClampNeg = s := nI_clamp (by omega)
  refine Vs_findingAt ⟨hin, ?_⟩
  rw [hcl]
  rcases hS.2 s hs4 with ⟨a1, a2⟩ | ⟨f, n, f2, n60, a1, a2, a3, a4, a5⟩
  · refine brT a1 (hk1 1 (Or.inl rfl) (fun g1 QM e35 e36 hq => Vm_lacks ⟨hin, ?_⟩))
    rw [hcl, e35, a2]
    exact brF ng1 hq
  · refine brF (by rw [a1]; exact nI_m1 (by omega)) ⟨hin, ?_⟩
    by_cases hf : x2 = nI f
    · refine brT (by rw [a1, hf]) ⟨hin, ?_⟩
      rw [a3]
      by_cases hc : 0 ≤ x3 ∧ x3 ≤ nI n - 1
      · have hn0 : 0 < n := by
          rcases Nat.eq_zero_or_pos n with hz | hz
          · rw [hz] at hc
            exact absurd (Int32.le_trans hc.1 hc.2) (by decide)
          · exact hz
        have hs1 : nI n - 1 = nI (n - 1) := pk_sub (a := n) (b := 1) (by omega)
        obtain ⟨i, hi, hxi⟩ := rng (n := n - 1) (x := x3) (by omega) (by rw [← hs1]; exact hc)
        refine brT hc (hk0 f n i f2 n60 (by omega) hxi hf a1 a2 a3 a4 a5 (fun g1 QM e35 e36 hq => Vm_lacks ⟨hin, ?_⟩))
        rw [hcl, e35, e36, a2, a4]
        exact brT (nI_pos' (by omega)) ⟨hin, brT hf.symm ⟨hin, brT hc hq⟩⟩
      · refine brF hc (hk1 2 (Or.inr (Or.inl rfl)) (fun g1 QM e35 e36 hq => Vm_lacks ⟨hin, ?_⟩))
        rw [hcl, e35, e36, a2, a4]
        exact brT (nI_pos' (by omega)) ⟨hin, brT hf.symm ⟨hin, brF hc hq⟩⟩
    · refine brF (fun hz => hf (by rw [← hz, a1])) (hk1 3 (Or.inr (Or.inr rfl)) (fun g1 QM e35 e36 hq => Vm_lacks ⟨hin, ?_⟩))
      rw [hcl, e35, a2]
      exact brT (nI_pos' (by omega)) ⟨hin, brF (fun hz => hf hz.symm) hq⟩
theorem fd_ne {fd : Int32} (h : fd = 1 ∨ fd = 2 ∨ fd = 3) : ¬ fd = 0 ∧ ¬ ((-10) - fd) = 0 := by
  rcases h with rfl | rfl | rfl <;> decide
theorem op_lay {x1 x2 x3 x4 : Int32} {g : Sg} {Q : Int32 → Int32 → Sg → Prop} (hR : Rel g) (hQ : ∀ r g', Rel g' → Q r r g') : Cx_lay x1 x2 x3 x4 g (fun r g1 => Cm_lay x1 x2 x3 x4 g1 (fun r' g2 => Q r r' g2)) := by
  have hS := hR.2.2
  by_cases hs : isS x1
  · by_cases hf : isF x2
    · obtain ⟨s, hs4, rfl⟩ := isS_of hs
      have hin : vp_in (nI s) 4 := vp_in_nI hs4 (by omega)
      refine Vx_lay (brT hs (brT hf (find_at hS hs4 (fun f n i f2 n60 hi hxi hxf a1 a2 a3 a4 a5 hM => br0 ?_) (fun fd hfd hM => brF (fd_ne hfd).1 (Vm_lay (brT hs (brT hf (hM _ _ (by funext j; rw [sg_k (by decide)]) (by funext j; rw [sg_k (by decide)]) (brF (fd_ne hfd).2 (hQ _ _ (hR.sh (Kp.find g fd) (hS.find fd)))))))))))) 
      rw [hxi]
      obtain ⟨c1, c2⟩ := cl60 hs4 (show i < 60 by omega)
      obtain ⟨c3, c4⟩ := cr60 hs4 (show i < 60 by omega)
      refine Vs_store ⟨hin, c2, Vm_lay (brT hs (brT hf ?_))⟩
      rw [← hxi]
      refine hM _ _ (by funext j; rw [sg_k (by decide)]) (by funext j; rw [sg_k (by decide)]) (br0 ?_)
      rw [hxi, c1, c3, nI_clamp (show s < 2 ^ 31 by omega), a1, hxf]
      refine ⟨c4, hQ _ _ (hR.sh (((Kp.rf cSh g).u rfl).u rfl) ⟨?_, fun s' hs' => ?_⟩)⟩
      · rw [sg_k (by decide), sg_k (by decide), sg_k (by decide), sg_k (by decide)]; exact hS.1
      · by_cases e : s' = s
        · subst e
          right
          refine ⟨f, n, f2, n60, by rw [sg_k (by decide), sg_k (by decide)]; exact a1, by rw [sg_k (by decide), sg_k (by decide)]; exact a2, by rw [sg_k (by decide), sg_k (by decide)]; exact a3, by rw [sg_k (by decide), sg_k (by decide)]; exact a4, fun j hj => ?_⟩
          by_cases hji : j = i
          · rw [hji, sg_k (by decide), sg_s, sg_s]
          · rw [sg_k (by decide), sg_j (by omega), sg_j (by omega), sg_k (by decide)]; exact a5 j hj
        · refine (hS.2 s' hs').of ?_ ?_ ?_ ?_ (fun j hj => ?_) (fun j hj => ?_)
          · rw [sg_k (by decide), sg_k (by decide)]
          · rw [sg_k (by decide), sg_k (by decide)]
          · rw [sg_k (by decide), sg_k (by decide)]
          · rw [sg_k (by decide), sg_k (by decide)]
          · rw [sg_k (by decide), sg_j (by omega)]
          · rw [sg_j (by omega), sg_k (by decide)]
    · exact Vx_lay (brT hs (brF hf (Vm_lay (brT hs (brF hf (hQ _ _ hR))))))
  · exact Vx_lay (brF hs (Vm_lay (brF hs (hQ _ _ hR))))
theorem op_get {x1 x2 x3 : Int32} {g : Sg} {Q : Int32 → Int32 → Sg → Prop} (hR : Rel g) (hQ : ∀ r g', Rel g' → Q r r g') : Cx_get x1 x2 x3 g (fun r g1 => Cm_get x1 x2 x3 g1 (fun r' g2 => Q r r' g2)) := by
  have hS := hR.2.2
  by_cases hs : isS x1
  · by_cases hf : isF x2
    · obtain ⟨s, hs4, rfl⟩ := isS_of hs
      refine Vx_get (brT hs (brT hf (find_at hS hs4 (fun f n i f2 n60 hi hxi hxf a1 a2 a3 a4 a5 hM => br0 ?_) (fun fd hfd hM => brF (fd_ne hfd).1 (Vm_get (brT hs (brT hf (hM _ _ (by funext j; rw [sg_k (by decide)]) (by funext j; rw [sg_k (by decide)]) (brF (fd_ne hfd).2 (hQ _ _ (hR.sh (Kp.find g fd) (hS.find fd))))))))))))
      obtain ⟨c1, c2⟩ := cl60 hs4 (show i < 60 by omega)
      obtain ⟨c3, c4⟩ := cr60 hs4 (show i < 60 by omega)
      rw [← hxi] at c1 c2 c3 c4
      refine ⟨c2, Vm_get (brT hs (brT hf (hM _ _ rfl rfl (br0 ⟨c4, ?_⟩))))⟩
      rw [c1, c3, a5 i hi]
      exact hQ _ _ hR
    · exact Vx_get (brT hs (brF hf (Vm_get (brT hs (brF hf (hQ _ _ hR))))))
  · exact Vx_get (brF hs (Vm_get (brF hs (hQ _ _ hR))))
