/-! wipe, undo, set, letIn, pull, back -/
/-- what calls on pipes, settings and steps may change -/
def cTx (k j : Nat) : Bool := scA k j || decide (k ≤ 15) || k == 39 || k == 41 || k == 42 || (k == 34 && (j == 6 || j == 11))
theorem RJ.tx {g g' : Sg} (h : RJ g) (hk : Kp cTx g g') : RJ g' := h.fr (hk.cell 26 (fun _ => rfl)) (hk 34 26 rfl) (hk 34 28 rfl) (hk.cell 27 (fun _ => rfl)) (hk.cell 28 (fun _ => rfl)) (hk.cell 29 (fun _ => rfl)) (hk.cell 53 (fun _ => rfl)) (hk.cell 54 (fun _ => rfl))
theorem RS.tx {g g' : Sg} (h : RS g) (hk : Kp cTx g g') : RS g' := h.fr (hk 30 3 rfl) (hk 34 4 rfl) (hk.cell 31 (fun _ => rfl)) (hk.cell 32 (fun _ => rfl)) (hk.cell 33 (fun _ => rfl)) (hk.cell 35 (fun _ => rfl)) (hk.cell 36 (fun _ => rfl)) (hk.cell 37 (fun _ => rfl))
theorem Rel.mk' {g g' : Sg} {bv : Nat → Nat} {n : Nat} {sh : Int32} {tk hd m : Nat} {f t : Nat → Int32} (hJ : RJ g) (hS : RS g) (hk : Kp cTx g g') (h1 : TC bv n g') (h2 : TM bv n g') (h3 : RSet g' sh tk hd) (h4 : RSt g' m f t) (h5 : BkC (NT bv n) sh tk f t g' m) : Rel g' := ⟨⟨bv, n, sh, tk, hd, m, f, t, h1, h2, h3, h4, h5⟩, hJ.tx hk, hS.tx hk⟩
theorem Kp.frT {g g' : Sg} (h : frT g g') : Kp cTx g g' := fun k j hk => by
  have hn : ¬ k ≤ 15 := fun hx => by simp [cTx, hx] at hk
  rw [h.1 k (by omega) (by omega) (by omega) (by omega) (by omega) (by omega)]
theorem Kp.bk {g g' : Sg} (h : ∀ c, cBk c = false → g' c = g c) : Kp cTx g g' := fun k j hk => by
  have hn : ¬ k ≤ 15 := fun hx => by simp [cTx, hx] at hk
  rw [h k (by unfold cBk; simp; omega)]
theorem TM.len {bv : Nat → Nat} {n m : Nat} {g g' : Sg} (h : TM bv n g) (hm : m ≤ n) (h6 : g' 34 6 = nI m) (h39 : g' 39 = g 39) : TM bv m g' :=
  ⟨h6, fun i hi => by rw [h39]; exact h.2.1 i (by omega), fun i hi => h.2.2.1 i (by omega), by have := h.2.2.2; omega⟩
theorem op_wipe {g : Sg} {Q : Int32 → Int32 → Sg → Prop} (hR : Rel g) (hQ : ∀ r g', Rel g' → Q r r g') : Cx_wipe g (fun r g1 => Cm_wipe g1 (fun r' g2 => Q r r' g2)) := by
  obtain ⟨⟨bv, n, sh, tk, hd, m, f, t, hC, hM, hSet, hSt, hB⟩, hJ, hSh⟩ := hR
  refine Vx_wipe (Sp_clear (bv := bv) (fun g1 hf1 hC1 => ?_))
  have e1 := hf1.1
  have hSt1 : RSt g1 m f t := hSt.fr (by rw [e1 11 (by decide) (by decide) (by decide) (by decide) (by decide) (by decide)]) (by rw [e1 34 (by decide) (by decide) (by decide) (by decide) (by decide) (by decide)]) (e1 12 (by decide) (by decide) (by decide) (by decide) (by decide) (by decide)) (e1 13 (by decide) (by decide) (by decide) (by decide) (by decide) (by decide)) (e1 42 (by decide) (by decide) (by decide) (by decide) (by decide) (by decide))
  have hSet1 : RSet g1 sh tk hd := hSet.fr (hf1.2 9 (by decide) (by decide) (by decide) (by decide)) (hf1.2 10 (by decide) (by decide) (by decide) (by decide)) (e1 41 (by decide) (by decide) (by decide) (by decide) (by decide) (by decide)) (by rw [e1 0 (by decide) (by decide) (by decide) (by decide) (by decide) (by decide)])
  refine replay (sh := sh) (tk := tk) hC1 hSet1.1 hSet1.2.2.2.1 hSet.2.2.2.2.2.2.1 hSt1 (by rw [e1 14 (by decide) (by decide) (by decide) (by decide) (by decide) (by decide)]; exact hB.l0) (fun g2 hf2 hB2 => ?_)
  refine Vm_wipe ?_
  have k2 : Kp cTx g g2 := (Kp.frT hf1).tr (Kp.bk hf2)
  have e34 : g2 34 = g 34 := by rw [hf2 34 rfl, e1 34 (by decide) (by decide) (by decide) (by decide) (by decide) (by decide)]
  rw [hC.1, e34, hM.1]
  refine hQ _ _ (Rel.mk' (bv := bv) (n := 0) (sh := sh) (tk := tk) (hd := hd) (m := m) (f := f) (t := t) hJ hSh (k2.u rfl) ?_ ?_ ?_ ?_ ?_)
  · exact hC1.fr (fun j _ _ => by rw [sg_k (by decide), hf2 1 rfl]) (by funext j; rw [sg_k (by decide), hf2 2 rfl]) (by funext j; rw [sg_k (by decide), hf2 3 rfl]) (by funext j; rw [sg_k (by decide), hf2 4 rfl]) (by funext j; rw [sg_k (by decide), hf2 5 rfl]) (by funext j; rw [sg_k (by decide), hf2 6 rfl])
  · exact hM.len (Nat.zero_le _) (by rw [sg_s]; rfl) (by funext j; rw [sg_k (by decide), hf2 39 rfl, e1 39 (by decide) (by decide) (by decide) (by decide) (by decide) (by decide)])
  · exact hSet1.fr (by rw [sg_k (by decide), hf2 1 rfl]) (by rw [sg_k (by decide), hf2 1 rfl]) (by funext j; rw [sg_k (by decide), hf2 41 rfl]) (by rw [sg_k (by decide), hf2 0 rfl])
  · exact hSt1.fr (by rw [sg_k (by decide), hf2 11 rfl]) (by rw [sg_j (by decide), hf2 34 rfl]) (by funext j; rw [sg_k (by decide), hf2 12 rfl]) (by funext j; rw [sg_k (by decide), hf2 13 rfl]) (by funext j; rw [sg_k (by decide), hf2 42 rfl])
  · exact hB2.fr (by funext j; rw [sg_k (by decide)]) (by funext j; rw [sg_k (by decide)])
theorem op_undo {g : Sg} {Q : Int32 → Int32 → Sg → Prop} (hR : Rel g) (hQ : ∀ r g', Rel g' → Q r r g') : Cx_undo g (fun r g1 => Cm_undo g1 (fun r' g2 => Q r r' g2)) := by
  obtain ⟨⟨bv, n, sh, tk, hd, m, f, t, hC, hM, hSet, hSt, hB⟩, hJ, hSh⟩ := id hR
  have hn := hC.2.2.2.1
  refine Vx_undo ?_
  rw [hC.2.2.2.2.2.2.1]
  have hm16 : mny bv n ≤ 16 := (NT_ok (bv := bv) hn).1
  by_cases h0 : mny bv n = 0
  · refine brT (by rw [h0]; rfl) (Vm_undo (Sm_reads hM _ (fun g1 f1 f2 hN => ?_)))
    rw [hN.2.1]
    refine brT (show nI (mny bv n) = 0 by rw [h0]; rfl) (hQ _ _ (hR.sc (fun k j hk => ?_)))
    by_cases h34 : k = 34
    · subst h34
      simp [scA] at hk
      exact f2 j (by omega) (by omega)
    · have h40 : k ≠ 40 := fun hx => by subst hx; simp [scA] at hk
      rw [f1 k h34 h40]
  · obtain ⟨w1, w2, w3⟩ := mny_wr (bv := bv) (n := n) (by omega) h0
    have hend : ended n = true := by
      cases he : ended n with
      | true => rfl
      | false => rw [(flt_un (by omega) w1 he).1] at w2; exact absurd w2 (nI_m1 (by omega))
    have hn4 : n % 5 = 4 := by
      unfold ended at hend
      simp at hend
      rcases hend with hx | hx
      · omega
      · exact hx
    refine brF (fun hx => h0 ((nI_eq (a := mny bv n) (b := 0) (by omega) (by omega)).mp hx)) (Sp_dropPipe hC w1 (fun g1 hf1 hC1 => ?_))
    have e1 := hf1.1
    have hSt1 : RSt g1 m f t := hSt.fr (by rw [e1 11 (by decide) (by decide) (by decide) (by decide) (by decide) (by decide)]) (by rw [e1 34 (by decide) (by decide) (by decide) (by decide) (by decide) (by decide)]) (e1 12 (by decide) (by decide) (by decide) (by decide) (by decide) (by decide)) (e1 13 (by decide) (by decide) (by decide) (by decide) (by decide) (by decide)) (e1 42 (by decide) (by decide) (by decide) (by decide) (by decide) (by decide))
    have hSet1 : RSet g1 sh tk hd := hSet.fr (hf1.2 9 (by decide) (by decide) (by decide) (by decide)) (hf1.2 10 (by decide) (by decide) (by decide) (by decide)) (e1 41 (by decide) (by decide) (by decide) (by decide) (by decide) (by decide)) (by rw [e1 0 (by decide) (by decide) (by decide) (by decide) (by decide) (by decide)])
    refine replay (sh := sh) (tk := tk) hC1 hSet1.1 hSet1.2.2.2.1 hSet.2.2.2.2.2.2.1 hSt1 (by rw [e1 14 (by decide) (by decide) (by decide) (by decide) (by decide) (by decide)]; exact hB.l0) (fun g2 hf2 hB2 => ?_)
    have e34 : g2 34 = g 34 := by rw [hf2 34 rfl, e1 34 (by decide) (by decide) (by decide) (by decide) (by decide) (by decide)]
    have e39 : g2 39 = g 39 := by rw [hf2 39 rfl, e1 39 (by decide) (by decide) (by decide) (by decide) (by decide) (by decide)]
    have hM2 : TM bv n g2 := hM.fr (by rw [e34]) e39
    have k2 : Kp cTx g g2 := (Kp.frT hf1).tr (Kp.bk hf2)
    have hC2 : TC bv (n - 5) g2 := hC1.fr (fun j _ _ => by rw [hf2 1 rfl]) (hf2 2 rfl) (hf2 3 rfl) (hf2 4 rfl) (hf2 5 rfl) (hf2 6 rfl)
    have hmy : mny bv (n - 5) = mny bv n - 1 := by
      have he5 : ended (n - 5) = true := by
        unfold ended
        simp
        omega
      rw [(flt_ok (wr_pre (by omega) w1 (show n - 5 ≤ n by omega)) he5).2, w3]
      omega
    refine Vm_undo (Sm_reads hM2 _ (fun g3 f3 f4 hN3 => ?_))
    have hN8 : g3 34 8 = nI (mny bv n) := hN3.2.1
    have k3 : Kp cTx g2 g3 := fun k j hk => by
      by_cases h34 : k = 34
      · subst h34
        simp [cTx, scA] at hk
        exact f4 j (by omega) (by omega)
      · have h40 : k ≠ 40 := fun hx => by subst hx; simp [cTx, scA] at hk
        rw [f3 k h34 h40]
    rw [hC2.2.2.2.2.2.2.1, hmy, hN8]
    have e6 : g3 34 6 = nI n := by rw [f4 6 (by decide) (by decide)]; exact hM2.1
    have fin : ∀ x, x = nI (n - 5) → Rel (sgU g3 34 6 x) := by
      intro x hx
      rw [hx]
      have hSt2 : RSt g2 m f t := hSt1.fr (by rw [hf2 11 rfl]) (by rw [hf2 34 rfl]) (hf2 12 rfl) (hf2 13 rfl) (hf2 42 rfl)
      have hSet2 : RSet g2 sh tk hd := hSet1.fr (by rw [hf2 1 rfl]) (by rw [hf2 1 rfl]) (hf2 41 rfl) (by rw [hf2 0 rfl])
      have ff : ∀ c, c ≠ 34 → c ≠ 40 → (sgU g3 34 6 (nI (n - 5))) c = g2 c := fun c c34 c40 => by funext j; rw [sg_k c34, f3 c c34 c40]
      refine Rel.mk' (bv := bv) (n := n - 5) (sh := sh) (tk := tk) (hd := hd) (m := m) (f := f) (t := t) hJ hSh ((k2.tr k3).u rfl) ?_ ?_ ?_ ?_ ?_
      · exact hC2.fr (fun j _ _ => by rw [ff 1 (by decide) (by decide)]) (ff 2 (by decide) (by decide)) (ff 3 (by decide) (by decide)) (ff 4 (by decide) (by decide)) (ff 5 (by decide) (by decide)) (ff 6 (by decide) (by decide))
      · exact hM2.len (by omega) (by rw [sg_s]) (ff 39 (by decide) (by decide))
      · exact hSet2.fr (by rw [ff 1 (by decide) (by decide)]) (by rw [ff 1 (by decide) (by decide)]) (ff 41 (by decide) (by decide)) (by rw [ff 0 (by decide) (by decide)])
      · exact hSt2.fr (by rw [ff 11 (by decide) (by decide)]) (by rw [sg_j (by decide), f4 11 (by decide) (by decide)]) (ff 12 (by decide) (by decide)) (ff 13 (by decide) (by decide)) (ff 42 (by decide) (by decide))
      · exact hB2.fr (ff 14 (by decide) (by decide)) (ff 15 (by decide) (by decide))
    have hs1 : nI (mny bv n) - 1 = nI (mny bv n - 1) := pk_sub (a := mny bv n) (b := 1) (by omega)
    refine brF (fun hx => h0 ((nI_eq (a := mny bv n) (b := 0) (by omega) (by omega)).mp hx)) ?_
    rw [hs1, e6]
    by_cases h1 : mny bv n = 1
    · refine brT (by rw [h1]; rfl) (hQ _ _ (fin _ ?_))
      have hn44 : n = 4 := by omega
      rw [hn44]; rfl
    · refine brF (fun hx => h1 ((nI_eq (a := mny bv n) (b := 1) (by omega) (by omega)).mp hx)) (hQ _ _ (fin _ ?_))
      exact pk_sub (a := n) (b := 5) (by omega)
