/-! most -/
theorem RelX.ldt {g : Sg} {bv : Nat → Nat} {n : Nat} {sh : Int32} {tk hd m : Nat} {f t : Nat → Int32} (h : RelX g bv n sh tk hd m f t) : ∀ p, ld (pw (NT bv n) sh tk f t m) p ≤ tk := by
  obtain ⟨hC, hM, hSet, hSt, hB⟩ := h
  exact (pw_ok hC.net.1 hSt.2.2.1 (fun k hk => (hSt.2.2.2 k hk).1) m (Nat.le_refl m)).2.2
theorem RelX.loadNow {g : Sg} {bv : Nat → Nat} {n : Nat} {sh : Int32} {tk hd m : Nat} {f t : Nat → Int32} (h : RelX g bv n sh tk hd m f t) {Q : Sg → Prop} (hq : ∀ g', (∀ k, k ≠ 8 → g' k = g k) → LdC (NT bv n) sh tk (ld (pw (NT bv n) sh tk f t m)) g' → Q g') : Cb_loadNow g Q := by
  have hpc := h.pc (Nat.le_refl m)
  have hlt := h.ldt
  obtain ⟨hC, hM, hSet, hSt, hB⟩ := id h
  have hm := hSt.2.2.1
  have hN := hC.net
  refine Vb_loadNow ?_
  rw [hSt.1, nI_clamp (show m < 2 ^ 31 by omega)]
  refine ⟨vp_in_nI (by omega) (by omega), Sb_fillLoad (fun g2 hfr2 hL2 => hq g2 hfr2 ⟨hN.of (hfr2 1 (by decide)) (hfr2 3 (by decide)) (hfr2 4 (by decide)) (hfr2 5 (by decide)) (hfr2 6 (by decide)), by rw [hfr2 1 (by decide)]; exact hSet.1, by rw [hfr2 1 (by decide)]; exact hSet.2.2.2.1, hSet.2.2.2.2.2.2.1, fun q hq16 => ?_, hlt⟩)⟩
  rw [hL2 q hq16, ld_congr hpc]
theorem RelX.ldm {g g1 : Sg} {bv : Nat → Nat} {n : Nat} {sh : Int32} {tk hd m : Nat} {f t : Nat → Int32} (h : RelX g bv n sh tk hd m f t) (hk : Kp scA g g1) (hN : NM (NT bv n) g1) (hG : MG g1 (pw (NT bv n) sh tk f t m)) : LdM (NT bv n) sh tk (ld (pw (NT bv n) sh tk f t m)) g1 := by
  have hlt := h.ldt
  obtain ⟨hC, hM, hSet, hSt, hB⟩ := id h
  exact ⟨hN, (hk 41 0 rfl).trans hSet.2.1, (hk 41 1 rfl).trans hSet.2.2.2.2.1, hSet.2.2.2.2.2.2.1, hG.2.2, hlt⟩
noncomputable def mst (N : Net) (sh : Int32) (tk : Nat) (P : Nat → Int32) (a b : Nat) (x : Int32) : Int32 := if x = 0 then nI (dct N sh tk a b 64 (ld P)) else nI (mxf N (capF sh tk (ld P)) a b)
theorem Kp.c8 {g g' : Sg} (h : ∀ k, k ≠ 8 → g' k = g k) : Kp scA g g' := fun k j hk => by rw [h k (fun hx => by subst hx; simp [scA] at hk)]
theorem Sx_most {g : Sg} {bv : Nat → Nat} {n : Nat} {sh : Int32} {tk hd m : Nat} {f t : Nat → Int32} {a b : Nat} {x3 : Int32} {Q : Int32 → Sg → Prop} (hX : RelX g bv n sh tk hd m f t) (ha : a < 8) (hb : b < 8) (hab : a ≠ b) (h3 : 0 ≤ x3 ∧ x3 ≤ 1) (hQ : ∀ g', Kp scA g g' → Q (mst (NT bv n) sh tk (pw (NT bv n) sh tk f t m) a b x3) g') : Cx_most (nI a) (nI b) x3 g Q := by
  refine Vx_most (brT (twoE_n ha hb hab) (brT h3 (hX.loadNow (fun g1 hf1 hL => ⟨fun hx => ?_, fun hx => ?_⟩))))
  · obtain ⟨l1, l2, l3, l4, l5, l6⟩ := id hL
    refine Sw_drawAll l1 l2 l3 l4 l5 l6 ha hb hab (fun g2 hf2 => ?_)
    have hz := hQ g2 ((Kp.c8 hf1).tr (fun k j hk => by rw [hf2 k (fun hx => by subst hx; simp [scA] at hk) (fun hx => by subst hx; simp [scA] at hk) (fun hx => by subst hx; simp [scA] at hk) (fun hx => by subst hx; simp [scA] at hk)]))
    unfold mst at hz
    rw [if_pos hx] at hz
    exact hz
  · refine Sf_greatest hL ha hb hab (fun g2 hf2 => ?_)
    have hz := hQ g2 ((Kp.c8 hf1).tr (fun k j hk => by rw [hf2 k (fun hx => by subst hx; simp [scA] at hk) (fun hx => by subst hx; simp [scA] at hk) (fun hx => by subst hx; simp [scA] at hk)]))
    unfold mst at hz
    rw [if_neg hx] at hz
    exact hz
theorem Sm_drawnR {g g1 : Sg} {bv : Nat → Nat} {n : Nat} {sh : Int32} {tk hd m : Nat} {f t : Nat → Int32} {a b : Nat} {Q : Int32 → Sg → Prop} (hX : RelX g bv n sh tk hd m f t) (hk : Kp scA g g1) (hN : NM (NT bv n) g1) (hG : MG g1 (pw (NT bv n) sh tk f t m)) (ha : a < 8) (hb : b < 8) (hab : a ≠ b)
    (hQ : ∀ g', Kp scA g1 g' → NM (NT bv n) g' → MG g' (pw (NT bv n) sh tk f t m) → Q (mst (NT bv n) sh tk (pw (NT bv n) sh tk f t m) a b 0) g') : Cm_drawnOf (nI a) (nI b) g1 Q := by
  obtain ⟨l1, l2, l3, l4, l5, l6⟩ := hX.ldm hk hN hG
  refine Sm_drawnOf l1 l2 l3 l4 l5 l6 ha hb hab (fun g2 hf2 h44 => hQ g2 (fun k j hk => by rw [hf2 k (fun hx => by subst hx; simp [scA] at hk) (fun hx => by subst hx; simp [scA] at hk) (fun hx => by subst hx; simp [scA] at hk) (fun hx => by subst hx; simp [scA] at hk)]) (hN.of (by rw [hf2 34 (by decide) (by decide) (by decide) (by decide)]) (hf2 40 (by decide) (by decide) (by decide) (by decide))) ⟨?_, fun w hw hne => ?_, fun p hp => (h44 p hp).trans (hG.2.2 p hp)⟩)
  · rw [hf2 34 (by decide) (by decide) (by decide) (by decide)]; exact hG.1
  · rw [hf2 43 (by decide) (by decide) (by decide) (by decide)]; exact hG.2.1 w hw hne
theorem Sm_mostR {g g1 : Sg} {bv : Nat → Nat} {n : Nat} {sh : Int32} {tk hd m : Nat} {f t : Nat → Int32} {a b : Nat} {Q : Int32 → Sg → Prop} (hX : RelX g bv n sh tk hd m f t) (hk : Kp scA g g1) (hN : NM (NT bv n) g1) (hG : MG g1 (pw (NT bv n) sh tk f t m)) (ha : a < 8) (hb : b < 8) (hab : a ≠ b)
    (hQ : ∀ g', Kp scA g1 g' → NM (NT bv n) g' → MG g' (pw (NT bv n) sh tk f t m) → Q (mst (NT bv n) sh tk (pw (NT bv n) sh tk f t m) a b 1) g') : Cm_mostOf (nI a) (nI b) g1 Q := by
  refine Sm_mostOf (hX.ldm hk hN hG) ha hb hab (fun g2 hf2 => hQ g2 (Kp.w2 hf2 (fun _ => rfl) (fun _ => rfl)) (hN.of (by rw [hf2 34 (by decide) (by decide)]) (hf2 40 (by decide) (by decide))) ⟨?_, fun w hw hne => ?_, fun p hp => ?_⟩)
  · rw [hf2 34 (by decide) (by decide)]; exact hG.1
  · rw [hf2 43 (by decide) (by decide)]; exact hG.2.1 w hw hne
  · rw [hf2 44 (by decide) (by decide)]; exact hG.2.2 p hp
theorem op_most {x1 x2 x3 : Int32} {g : Sg} {Q : Int32 → Int32 → Sg → Prop} (hR : Rel g) (hQ : ∀ r g', Rel g' → Q r r g') : Cx_most x1 x2 x3 g (fun r g1 => Cm_most x1 x2 x3 g1 (fun r' g2 => Q r r' g2)) := by
  obtain ⟨⟨bv, n, sh, tk, hd, m, f, t, hX⟩, hJ, hSh⟩ := id hR
  by_cases h1 : twoE x1 x2
  · by_cases h3 : 0 ≤ x3 ∧ x3 ≤ 1
    · obtain ⟨a, b, ha, hb, hab, rfl, rfl⟩ := twoE_of h1
      refine Sx_most hX ha hb hab h3 (fun g1 hk1 => Vm_most ((hX.sc hk1).goesAll (fun g2 hk2 hN2 hG2 _ _ => brT h1 (brT h3 ⟨fun hx => ?_, fun hx => ?_⟩))))
      · subst hx
        exact Sm_drawnR (hX.sc hk1) hk2 hN2 hG2 ha hb hab (fun g3 hk3 _ _ => hQ _ _ (((hR.sc hk1).sc hk2).sc hk3))
      · have e : ∀ P, mst (NT bv n) sh tk P a b x3 = mst (NT bv n) sh tk P a b 1 := fun P => by unfold mst; rw [if_neg hx, if_neg (by decide)]
        rw [e]
        exact Sm_mostR (hX.sc hk1) hk2 hN2 hG2 ha hb hab (fun g3 hk3 _ _ => hQ _ _ (((hR.sc hk1).sc hk2).sc hk3))
    · exact Vx_most (brT h1 (brF h3 (Vm_most (hX.goesAll (fun g2 hk2 _ _ _ _ => brT h1 (brF h3 (hQ _ _ (hR.sc hk2))))))))
  · exact Vx_most (brF h1 (Vm_most (hX.goesAll (fun g2 hk2 _ _ _ _ => brF h1 (hQ _ _ (hR.sc hk2))))))
