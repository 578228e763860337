/-! chalk, scene, forget -/
def cJt (k j : Nat) : Bool := k == 26 || k == 27 || k == 28 || k == 29 || k == 53 || k == 54 || (k == 34 && (j == 26 || j == 28))
theorem Rel.jt {g g' : Sg} (h : Rel g) (hk : Kp cJt g g') (hJ : RJ g') : Rel g' := by
  obtain ⟨⟨bv, n, sh, tk, hd, m, f, t, h1, h2, h3, h4, h5⟩, -, hS⟩ := h
  refine ⟨⟨bv, n, sh, tk, hd, m, f, t, ?_, ?_, ?_, ?_, ?_⟩, hJ, ?_⟩
  · exact h1.fr (fun j _ _ => hk 1 j rfl) (hk.cell 2 (fun _ => rfl)) (hk.cell 3 (fun _ => rfl)) (hk.cell 4 (fun _ => rfl)) (hk.cell 5 (fun _ => rfl)) (hk.cell 6 (fun _ => rfl))
  · exact h2.fr (hk 34 6 rfl) (hk.cell 39 (fun _ => rfl))
  · exact h3.fr (hk 1 9 rfl) (hk 1 10 rfl) (hk.cell 41 (fun _ => rfl)) (hk 0 8 rfl)
  · exact h4.fr (hk 11 6 rfl) (hk 34 11 rfl) (hk.cell 12 (fun _ => rfl)) (hk.cell 13 (fun _ => rfl)) (hk.cell 42 (fun _ => rfl))
  · exact h5.fr (hk.cell 14 (fun _ => rfl)) (hk.cell 15 (fun _ => rfl))
  · exact hS.fr (hk 30 3 rfl) (hk 34 4 rfl) (hk.cell 31 (fun _ => rfl)) (hk.cell 32 (fun _ => rfl)) (hk.cell 33 (fun _ => rfl)) (hk.cell 35 (fun _ => rfl)) (hk.cell 36 (fun _ => rfl)) (hk.cell 37 (fun _ => rfl))
theorem op_chalk {x1 x2 x3 : Int32} {g : Sg} {Q : Int32 → Int32 → Sg → Prop} (hR : Rel g) (hQ : ∀ r g', Rel g' → Q r r g') : Cx_chalk x1 x2 x3 g (fun r g1 => Cm_chalk x1 x2 x3 g1 (fun r' g2 => Q r r' g2)) := by
  obtain ⟨mc, sc, m8, s6, j1, j2, j3, j4, j5, j6⟩ := hR.2.1
  by_cases hw : isW x1
  · by_cases he : twoE x2 x3
    · refine Vx_chalk (brT hw (brT he (Vj_addMark ?_)))
      rw [j1]
      by_cases hm : mc < 8
      · obtain ⟨w, hw16, rfl⟩ := isW_of hw
        obtain ⟨a, b, ha, hb, hab, rfl, rfl⟩ := twoE_of he
        refine brT ((nI_ltI (a := mc) (b := 8) (by omega) (by omega)).mpr hm) ⟨vp_in_nI hm (by omega), vp_in_nI hm (by omega), Vm_chalk (brT hw (brT he ?_))⟩
        rw [sg_k (by decide), sg_k (by decide), sg_k (by decide), j2, nI_clamp (show mc < 2 ^ 31 by omega), nI_1]
        have e0 : 3 * nI mc = nI (3 * mc) := pk_mul 3 mc
        have e1 : nI (3 * mc) + 1 = nI (3 * mc + 1) := nI_add _ 1
        have e2 : nI (3 * mc) + 2 = nI (3 * mc + 2) := nI_add _ 2
        rw [e0, e1, e2, nI_clamp (show 3 * mc < 2 ^ 31 by omega), nI_clamp (show 3 * mc + 1 < 2 ^ 31 by omega), nI_clamp (show 3 * mc + 2 < 2 ^ 31 by omega)]
        refine brF (fun hz => ?_) ⟨vp_in_nI (by omega) (by omega), vp_in_nI (by omega) (by omega), vp_in_nI (by omega) (by omega), ?_⟩
        · have := (nI_eq (a := mc) (b := 8) (by omega) (by omega)).mp hz
          omega
        · refine hQ _ _ (hR.jt (((((((Kp.rf cJt g).u rfl).u rfl).u rfl).u rfl).u rfl).u rfl |>.u rfl) ⟨mc + 1, sc, by omega, s6, ?_, ?_, ?_, ?_, fun i hi => ?_, fun i hi => ?_⟩)
          · rw [sg_k (by decide), sg_k (by decide), sg_k (by decide), sg_k (by decide), sg_s]
          · rw [sg_s]
          · rw [sg_k (by decide), sg_k (by decide), sg_k (by decide), sg_k (by decide), sg_j (by decide), sg_k (by decide), sg_k (by decide)]; exact j3
          · rw [sg_j (by decide), sg_k (by decide), sg_k (by decide), sg_k (by decide), sg_k (by decide), sg_k (by decide), sg_k (by decide)]; exact j4
          · by_cases him : i = mc
            · rw [him]
              refine ⟨w, a, b, hw16, ha, hb, hab, ?_, ?_, ?_, ?_, ?_⟩
              · rw [sg_k (by decide), sg_k (by decide), sg_k (by decide), sg_k (by decide), sg_k (by decide), sg_k (by decide), sg_s]
              · rw [sg_k (by decide), sg_k (by decide), sg_k (by decide), sg_k (by decide), sg_k (by decide), sg_s]
              · rw [sg_k (by decide), sg_j (by omega), sg_j (by omega), sg_s]
              · rw [sg_k (by decide), sg_j (by omega), sg_s]
              · rw [sg_k (by decide), sg_s]
            · obtain ⟨w', a', b', y1, y2, y3, y4, y5, y6, y7, y8, y9⟩ := j5 i (by omega)
              refine ⟨w', a', b', y1, y2, y3, y4, ?_, ?_, ?_, ?_, ?_⟩
              · rw [sg_k (by decide), sg_k (by decide), sg_k (by decide), sg_k (by decide), sg_k (by decide), sg_k (by decide), sg_j him]; exact y5
              · rw [sg_k (by decide), sg_k (by decide), sg_k (by decide), sg_k (by decide), sg_k (by decide), sg_j him, sg_k (by decide)]; exact y6
              · rw [sg_k (by decide), sg_j (by omega), sg_j (by omega), sg_j (by omega), sg_k (by decide), sg_k (by decide), sg_k (by decide)]; exact y7
              · rw [sg_k (by decide), sg_j (by omega), sg_j (by omega), sg_j (by omega), sg_k (by decide), sg_k (by decide), sg_k (by decide)]; exact y8
              · rw [sg_k (by decide), sg_j (by omega), sg_j (by omega), sg_j (by omega), sg_k (by decide), sg_k (by decide), sg_k (by decide)]; exact y9
          · have z29 : (sgU (sgU (sgU (sgU (sgU (sgU (sgU g 27 mc (nI w)) 28 mc (sb (nI a) ||| sb (nI b))) 26 3 (nI (mc + 1))) 53 (3 * mc) (nI w)) 53 (3 * mc + 1) (nI a)) 53 (3 * mc + 2) (nI b)) 34 26 (nI (mc + 1))) 29 i = g 29 i := by
              rw [sg_k (by decide), sg_k (by decide), sg_k (by decide), sg_k (by decide), sg_k (by decide), sg_k (by decide), sg_k (by decide)]
            have z54 : (sgU (sgU (sgU (sgU (sgU (sgU (sgU g 27 mc (nI w)) 28 mc (sb (nI a) ||| sb (nI b))) 26 3 (nI (mc + 1))) 53 (3 * mc) (nI w)) 53 (3 * mc + 1) (nI a)) 53 (3 * mc + 2) (nI b)) 34 26 (nI (mc + 1))) 54 i = g 54 i := by
              rw [sg_k (by decide), sg_k (by decide), sg_k (by decide), sg_k (by decide), sg_k (by decide), sg_k (by decide), sg_k (by decide)]
            rw [z29, z54]; exact j6 i hi
      · have hm8 : mc = 8 := by omega
        refine brF (fun hz => hm ((nI_ltI (a := mc) (b := 8) (by omega) (by omega)).mp hz)) (Vm_chalk (brT hw (brT he (brT ?_ (hQ _ _ hR)))))
        rw [j2, hm8]; rfl
    · exact Vx_chalk (brT hw (brF he (Vm_chalk (brT hw (brF he (hQ _ _ hR))))))
  · exact Vx_chalk (brF hw (Vm_chalk (brF hw (hQ _ _ hR))))
theorem op_scene {x1 : Int32} {g : Sg} {Q : Int32 → Int32 → Sg → Prop} (hR : Rel g) (hQ : ∀ r g', Rel g' → Q r r g') : Cx_scene x1 g (fun r g1 => Cm_scene x1 g1 (fun r' g2 => Q r r' g2)) := by
  obtain ⟨mc, sc, m8, s6, j1, j2, j3, j4, j5, j6⟩ := hR.2.1
  by_cases hv : 0 ≤ x1 ∧ x1 ≤ 255
  · refine Vx_scene (brT hv (Vj_addScene ?_))
    rw [j3]
    by_cases hm : sc < 6
    · refine brT ((nI_ltI (a := sc) (b := 6) (by omega) (by omega)).mpr hm) ⟨vp_in_nI hm (by omega), Vm_scene (brT hv ?_)⟩
      rw [sg_k (by decide), sg_k (by decide), j4, nI_clamp (show sc < 2 ^ 31 by omega), nI_1]
      refine brF (fun hz => ?_) ⟨vp_in_nI hm (by omega), ?_⟩
      · have := (nI_eq (a := sc) (b := 6) (by omega) (by omega)).mp hz
        omega
      · refine hQ _ _ (hR.jt (((((Kp.rf cJt g).u rfl).u rfl).u rfl).u rfl) ⟨mc, sc + 1, m8, by omega, ?_, ?_, ?_, ?_, fun i hi => ?_, fun i hi => ?_⟩)
        · rw [sg_k (by decide), sg_k (by decide), sg_j (by decide), sg_k (by decide)]; exact j1
        · rw [sg_j (by decide), sg_k (by decide), sg_k (by decide), sg_k (by decide)]; exact j2
        · rw [sg_k (by decide), sg_k (by decide), sg_s]
        · rw [sg_s]
        · obtain ⟨w', a', b', y1, y2, y3, y4, y5, y6, y7, y8, y9⟩ := j5 i hi
          refine ⟨w', a', b', y1, y2, y3, y4, ?_, ?_, ?_, ?_, ?_⟩ <;> rw [sg_k (by decide), sg_k (by decide), sg_k (by decide), sg_k (by decide)] <;> assumption
        · by_cases hik : i = sc
          · rw [hik, sg_k (by decide), sg_k (by decide), sg_k (by decide), sg_s, sg_k (by decide), sg_s]
          · rw [sg_k (by decide), sg_k (by decide), sg_k (by decide), sg_j hik, sg_k (by decide), sg_j hik, sg_k (by decide), sg_k (by decide)]; exact j6 i (by omega)
    · have hm6 : sc = 6 := by omega
      refine brF (fun hz => hm ((nI_ltI (a := sc) (b := 6) (by omega) (by omega)).mp hz)) (Vm_scene (brT hv (brT ?_ (hQ _ _ hR))))
      rw [j4, hm6]; rfl
  · exact Vx_scene (brF hv (Vm_scene (brF hv (hQ _ _ hR))))
theorem sg_id (g : Sg) (k j : Nat) : sgU g k j (g k j) = g := by
  funext k' j'
  by_cases h : k' = k
  · subst h
    by_cases h2 : j' = j
    · subst h2; rw [sg_s]
    · rw [sg_j h2]
  · rw [sg_k h]
theorem op_forget {x1 : Int32} {g : Sg} {Q : Int32 → Int32 → Sg → Prop} (hR : Rel g) (hQ : ∀ r g', Rel g' → Q r r g') : Cx_forget x1 g (fun r g1 => Cm_forget x1 g1 (fun r' g2 => Q r r' g2)) := by
  obtain ⟨mc, sc, m8, s6, j1, j2, j3, j4, j5, j6⟩ := hR.2.1
  by_cases h0 : x1 = 0
  · subst h0
    refine Vx_forget (brT rfl (Vj_dropMarks (Vm_forget (brT (by decide) (brT rfl (brT rfl (brF (by decide) ?_)))))))
    have e1 : sgU g 26 3 0 34 26 = nI mc := by rw [sg_k (by decide)]; exact j2
    have e2 : sgU g 26 3 0 34 28 = nI sc := by rw [sg_k (by decide)]; exact j4
    rw [j1, e1, e2]
    refine hQ _ _ (hR.jt ((((Kp.rf cJt g).u rfl).u rfl).u rfl) ⟨0, sc, by omega, s6, ?_, ?_, ?_, ?_, fun i hi => absurd hi (by omega), fun i hi => ?_⟩)
    · rw [sg_k (by decide), sg_k (by decide), sg_s]; rfl
    · rw [sg_j (by decide), sg_s]; rfl
    · rw [sg_k (by decide), sg_k (by decide), sg_j (by decide)]; exact j3
    · rw [sg_s]
    · rw [sg_k (by decide), sg_k (by decide), sg_k (by decide), sg_k (by decide), sg_k (by decide), sg_k (by decide)]; exact j6 i hi
  · by_cases h1 : x1 = 1
    · subst h1
      refine Vx_forget (brF (by decide) (brT rfl (Vj_dropScenes (Vm_forget (brT (by decide) (brF (by decide) (brF (by decide) (brT rfl ?_))))))))
      have e1 : sgU g 26 4 0 34 26 = nI mc := by rw [sg_k (by decide)]; exact j2
      have e2 : sgU g 26 4 0 34 28 = nI sc := by rw [sg_k (by decide)]; exact j4
      rw [j3, e1, e2]
      refine hQ _ _ (hR.jt ((((Kp.rf cJt g).u rfl).u rfl).u rfl) ⟨mc, 0, m8, by omega, ?_, ?_, ?_, ?_, fun i hi => ?_, fun i hi => absurd hi (by omega)⟩)
      · rw [sg_k (by decide), sg_k (by decide), sg_j (by decide)]; exact j1
      · rw [sg_j (by decide), sg_s]
      · rw [sg_k (by decide), sg_k (by decide), sg_s]; rfl
      · rw [sg_s]; rfl
      · obtain ⟨w', a', b', y1, y2, y3, y4, y5, y6, y7, y8, y9⟩ := j5 i hi
        refine ⟨w', a', b', y1, y2, y3, y4, ?_, ?_, ?_, ?_, ?_⟩ <;> rw [sg_k (by decide), sg_k (by decide), sg_k (by decide)] <;> assumption
    · refine Vx_forget (brF h0 (brF h1 (Vm_forget (brF (fun hz => ?_) (hQ _ _ hR)))))
      obtain ⟨k, hk, hk2⟩ := rng (n := 1) (x := x1) (by omega) hz
      rcases (show k = 0 ∨ k = 1 by omega) with rfl | rfl
      · exact h0 hk2
      · exact h1 hk2
