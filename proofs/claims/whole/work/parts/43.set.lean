/-! set -/
theorem tn0 : (0 : Int32).toNatClampNeg = 0 := by decide
theorem tn1 : (1 : Int32).toNatClampNeg = 1 := by decide
theorem tn2 : (2 : Int32).toNatClampNeg = 2 := by decide
theorem x3c {x : Int32} (h : ¬ (0 ≤ x ∧ x ≤ 2)) : x.toInt < 0 ∨ 2 < x.toInt := by
  rw [Int32.le_iff_toInt_le, Int32.le_iff_toInt_le] at h
  have h0 : (0 : Int32).toInt = 0 := by decide
  have h2 : (2 : Int32).toInt = 2 := by decide
  omega
theorem x3d {x : Int32} (h : x.toInt < 0 ∨ 2 < x.toInt) : ¬ (0 ≤ x ∧ x ≤ 2) := by
  rw [Int32.le_iff_toInt_le, Int32.le_iff_toInt_le]
  have h0 : (0 : Int32).toInt = 0 := by decide
  have h2 : (2 : Int32).toInt = 2 := by decide
  omega
theorem nx {k j : Int32} {P : Prop} (h : ¬ k = j) : k = j → P := fun hx => absurd hx h
theorem op_set {x1 x2 : Int32} {g : Sg} {Q : Int32 → Int32 → Sg → Prop} (hR : Rel g) (hQ : ∀ r g', Rel g' → Q r r g') : Cx_set x1 x2 g (fun r g1 => Cm_set x1 x2 g1 (fun r' g2 => Q r r' g2)) := by
  obtain ⟨⟨bv, n, sh, tk, hd, m, f, t, hC, hM, hSet, hSt, hB⟩, hJ, hSh⟩ := id hR
  have hS' := hSet
  obtain ⟨s1, s2, s3, s4, s5, s6, s7, s8, s9, s10, s11⟩ := hSet
  by_cases hx : 0 ≤ x1 ∧ x1 ≤ 2
  · obtain ⟨k, hk, rfl⟩ := rng (n := 2) (by omega) hx
    have hno : ¬ ((nI k).toInt < 0 ∨ 2 < (nI k).toInt) := fun hz => x3d hz hx
    rcases (show k = 0 ∨ k = 1 ∨ k = 2 by omega) with rfl | rfl | rfl
    · have e0 : nI 0 = (0 : Int32) := rfl
      rw [e0] at *
      refine Vx_set ⟨fun hz => absurd hz hno, fun _ => ?_, nx (by decide), nx (by decide)⟩
      by_cases hv : 0 ≤ x2 ∧ x2 ≤ 65535
      · refine brT hv (Vx_setShut ?_)
        have fr1 : ∀ c, c ≠ 1 → (sgU g 1 9 x2) c = g c := fun c hc => by funext j; rw [sg_k hc]
        have hC1 : TC bv n (sgU g 1 9 x2) := hC.fr (fun j _ h8 => by rw [sg_j (by omega)]) (fr1 2 (by decide)) (fr1 3 (by decide)) (fr1 4 (by decide)) (fr1 5 (by decide)) (fr1 6 (by decide))
        have hSt1 : RSt (sgU g 1 9 x2) m f t := hSt.fr (by rw [fr1 11 (by decide)]) (by rw [fr1 34 (by decide)]) (fr1 12 (by decide)) (fr1 13 (by decide)) (fr1 42 (by decide))
        refine replay (sh := x2) (tk := tk) hC1 (by rw [sg_s]) (by rw [sg_j (by decide)]; exact s4) s7 hSt1 (by rw [fr1 14 (by decide)]; exact hB.l0) (fun g2 hf2 hB2 => ?_)
        refine Vm_set (brT (by decide) (brT rfl (brT rfl (brT hv ⟨by unfold vp_in; decide, by unfold vp_in; decide, ?_⟩))))
        rw [tn0, hf2 41 rfl, fr1 41 (by decide), s1, s2]
        refine hQ _ _ (Rel.mk' (bv := bv) (n := n) (sh := x2) (tk := tk) (hd := hd) (m := m) (f := f) (t := t) hJ hSh ((((Kp.rf cTx g).u (k := 1) (j := 9) (x := x2) rfl).tr (Kp.bk hf2)).u rfl) ?_ ?_ ⟨?_, ?_, hv, ?_, ?_, s6, s7, ?_, ?_, s10, s11⟩ ?_ ?_)
        · exact hC1.fr (fun j _ _ => by rw [sg_k (by decide), hf2 1 rfl]) (by funext j; rw [sg_k (by decide), hf2 2 rfl]) (by funext j; rw [sg_k (by decide), hf2 3 rfl]) (by funext j; rw [sg_k (by decide), hf2 4 rfl]) (by funext j; rw [sg_k (by decide), hf2 5 rfl]) (by funext j; rw [sg_k (by decide), hf2 6 rfl])
        · exact hM.fr (by rw [sg_k (by decide), hf2 34 rfl, fr1 34 (by decide)]) (by funext j; rw [sg_k (by decide), hf2 39 rfl, fr1 39 (by decide)])
        · rw [sg_k (by decide), hf2 1 rfl, sg_s]
        · rw [sg_s]
        · rw [sg_k (by decide), hf2 1 rfl, sg_j (by decide)]; exact s4
        · rw [sg_j (by decide), hf2 41 rfl, fr1 41 (by decide)]; exact s5
        · rw [sg_k (by decide), hf2 0 rfl, fr1 0 (by decide)]; exact s8
        · rw [sg_j (by decide), hf2 41 rfl, fr1 41 (by decide)]; exact s9
        · exact hSt1.fr (by rw [sg_k (by decide), hf2 11 rfl]) (by rw [sg_k (by decide), hf2 34 rfl]) (by funext j; rw [sg_k (by decide), hf2 12 rfl]) (by funext j; rw [sg_k (by decide), hf2 13 rfl]) (by funext j; rw [sg_k (by decide), hf2 42 rfl])
        · exact hB2.fr (by funext j; rw [sg_k (by decide)]) (by funext j; rw [sg_k (by decide)])
      · exact brF hv (Vm_set (brT (by decide) (brT rfl (brT rfl (brF hv (hQ _ _ hR))))))
    · have e0 : nI 1 = (1 : Int32) := rfl
      rw [e0] at *
      refine Vx_set ⟨fun hz => absurd hz hno, nx (by decide), fun _ => ?_, nx (by decide)⟩
      by_cases hv : 1 ≤ x2 ∧ x2 ≤ 4
      · have hv2 : ∃ w : Nat, 1 ≤ w ∧ w ≤ 4 ∧ x2 = nI w := by
          obtain ⟨w, hw, hw2⟩ := rng (n := 4) (x := x2) (by omega) ⟨Int32.le_trans (by decide) hv.1, hv.2⟩
          refine ⟨w, ?_, hw, hw2⟩
          have h1 := hv.1
          rw [hw2] at h1
          exact (nI_leI (a := 1) (b := w) (by omega) (by omega)).mp h1
        obtain ⟨w, hw1, hw4, rfl⟩ := hv2
        refine brT hv (Vx_setTakes ?_)
        have fr1 : ∀ c, c ≠ 1 → (sgU g 1 10 (nI w)) c = g c := fun c hc => by funext j; rw [sg_k hc]
        have hC1 : TC bv n (sgU g 1 10 (nI w)) := hC.fr (fun j _ h8 => by rw [sg_j (by omega)]) (fr1 2 (by decide)) (fr1 3 (by decide)) (fr1 4 (by decide)) (fr1 5 (by decide)) (fr1 6 (by decide))
        have hSt1 : RSt (sgU g 1 10 (nI w)) m f t := hSt.fr (by rw [fr1 11 (by decide)]) (by rw [fr1 34 (by decide)]) (fr1 12 (by decide)) (fr1 13 (by decide)) (fr1 42 (by decide))
        refine replay (sh := sh) (tk := w) hC1 (by rw [sg_j (by decide)]; exact s1) (by rw [sg_s]) hw4 hSt1 (by rw [fr1 14 (by decide)]; exact hB.l0) (fun g2 hf2 hB2 => ?_)
        refine Vm_set (brT (by decide) (brF (by decide) (brF (by decide) (brT rfl (brT hv ⟨by unfold vp_in; decide, by unfold vp_in; decide, ?_⟩)))))
        rw [tn1, hf2 41 rfl, fr1 41 (by decide), s4, s5]
        refine hQ _ _ (Rel.mk' (bv := bv) (n := n) (sh := sh) (tk := w) (hd := hd) (m := m) (f := f) (t := t) hJ hSh ((((Kp.rf cTx g).u (k := 1) (j := 10) (x := nI w) rfl).tr (Kp.bk hf2)).u rfl) ?_ ?_ ⟨?_, ?_, s3, ?_, ?_, hw1, hw4, ?_, ?_, s10, s11⟩ ?_ ?_)
        · exact hC1.fr (fun j _ _ => by rw [sg_k (by decide), hf2 1 rfl]) (by funext j; rw [sg_k (by decide), hf2 2 rfl]) (by funext j; rw [sg_k (by decide), hf2 3 rfl]) (by funext j; rw [sg_k (by decide), hf2 4 rfl]) (by funext j; rw [sg_k (by decide), hf2 5 rfl]) (by funext j; rw [sg_k (by decide), hf2 6 rfl])
        · exact hM.fr (by rw [sg_k (by decide), hf2 34 rfl, fr1 34 (by decide)]) (by funext j; rw [sg_k (by decide), hf2 39 rfl, fr1 39 (by decide)])
        · rw [sg_k (by decide), hf2 1 rfl, sg_j (by decide)]; exact s1
        · rw [sg_j (by decide), hf2 41 rfl, fr1 41 (by decide)]; exact s2
        · rw [sg_k (by decide), hf2 1 rfl, sg_s]
        · rw [sg_s]
        · rw [sg_k (by decide), hf2 0 rfl, fr1 0 (by decide)]; exact s8
        · rw [sg_j (by decide), hf2 41 rfl, fr1 41 (by decide)]; exact s9
        · exact hSt1.fr (by rw [sg_k (by decide), hf2 11 rfl]) (by rw [sg_k (by decide), hf2 34 rfl]) (by funext j; rw [sg_k (by decide), hf2 12 rfl]) (by funext j; rw [sg_k (by decide), hf2 13 rfl]) (by funext j; rw [sg_k (by decide), hf2 42 rfl])
        · exact hB2.fr (by funext j; rw [sg_k (by decide)]) (by funext j; rw [sg_k (by decide)])
      · exact brF hv (Vm_set (brT (by decide) (brF (by decide) (brF (by decide) (brT rfl (brF hv (hQ _ _ hR)))))))
    · have e0 : nI 2 = (2 : Int32) := rfl
      rw [e0] at *
      refine Vx_set ⟨fun hz => absurd hz hno, nx (by decide), nx (by decide), fun _ => ?_⟩
      by_cases hv : 1 ≤ x2 ∧ x2 ≤ 999
      · have hv2 : ∃ w : Nat, 1 ≤ w ∧ w ≤ 999 ∧ x2 = nI w := by
          obtain ⟨w, hw, hw2⟩ := rng (n := 999) (x := x2) (by omega) ⟨Int32.le_trans (by decide) hv.1, hv.2⟩
          refine ⟨w, ?_, hw, hw2⟩
          have h1 := hv.1
          rw [hw2] at h1
          exact (nI_leI (a := 1) (b := w) (by omega) (by omega)).mp h1
        obtain ⟨w, hw1, hw4, rfl⟩ := hv2
        refine brT hv (Vx_setHard ?_)
        refine Vm_set (brT (by decide) (brF (by decide) (brF (by decide) (brF (by decide) (brT hv ⟨by unfold vp_in; decide, by unfold vp_in; decide, ?_⟩)))))
        rw [tn2, s8]
        have e41 : sgU g 0 8 (nI w) 41 2 = nI hd := by rw [sg_k (by decide)]; exact s9
        rw [e41]
        refine hQ _ _ (Rel.mk' (bv := bv) (n := n) (sh := sh) (tk := tk) (hd := w) (m := m) (f := f) (t := t) hJ hSh (((Kp.rf cTx g).u rfl).u rfl) ?_ ?_ ⟨?_, ?_, s3, ?_, ?_, s6, s7, ?_, ?_, hw1, hw4⟩ ?_ ?_)
        · exact hC.fr (fun j _ _ => by rw [sg_k (by decide), sg_k (by decide)]) (by funext j; rw [sg_k (by decide), sg_k (by decide)]) (by funext j; rw [sg_k (by decide), sg_k (by decide)]) (by funext j; rw [sg_k (by decide), sg_k (by decide)]) (by funext j; rw [sg_k (by decide), sg_k (by decide)]) (by funext j; rw [sg_k (by decide), sg_k (by decide)])
        · exact hM.fr (by rw [sg_k (by decide), sg_k (by decide)]) (by funext j; rw [sg_k (by decide), sg_k (by decide)])
        · rw [sg_k (by decide), sg_k (by decide)]; exact s1
        · rw [sg_j (by decide), sg_k (by decide)]; exact s2
        · rw [sg_k (by decide), sg_k (by decide)]; exact s4
        · rw [sg_j (by decide), sg_k (by decide)]; exact s5
        · rw [sg_k (by decide), sg_s]
        · rw [sg_s]
        · exact hSt.fr (by rw [sg_k (by decide), sg_k (by decide)]) (by rw [sg_k (by decide), sg_k (by decide)]) (by funext j; rw [sg_k (by decide), sg_k (by decide)]) (by funext j; rw [sg_k (by decide), sg_k (by decide)]) (by funext j; rw [sg_k (by decide), sg_k (by decide)])
        · exact hB.fr (by funext j; rw [sg_k (by decide), sg_k (by decide)]) (by funext j; rw [sg_k (by decide), sg_k (by decide)])
      · exact brF hv (Vm_set (brT (by decide) (brF (by decide) (brF (by decide) (brF (by decide) (brF hv (hQ _ _ hR)))))))
  · have ne : ∀ k : Nat, k ≤ 2 → ¬ x1 = nI k := fun k hk hz => hx (by rw [hz]; exact rng' (n := 2) (by omega) hk)
    exact Vx_set ⟨fun _ => Vm_set (brF hx (hQ _ _ hR)), nx (ne 0 (by omega)), nx (ne 1 (by omega)), nx (ne 2 (by omega))⟩
