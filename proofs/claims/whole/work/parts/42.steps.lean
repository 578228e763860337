/-! steps: letIn, pull, back -/
def StC (g : Sg) (m : Nat) (f t : Nat → Int32) : Prop := g 11 6 = nI m ∧ m ≤ 16 ∧ ∀ j, j < m → stOK (f j) (t j) ∧ g 12 j = f j ∧ g 13 j = t j
def StN (g : Sg) (m : Nat) (f t : Nat → Int32) : Prop := g 34 11 = nI m ∧ ∀ j, j < m → g 42 (2 * j) = f j ∧ g 42 (2 * j + 1) = t j
theorem RSt.c {g : Sg} {m : Nat} {f t : Nat → Int32} (h : RSt g m f t) : StC g m f t := ⟨h.1, h.2.2.1, fun j hj => ⟨(h.2.2.2 j hj).1, (h.2.2.2 j hj).2.1, (h.2.2.2 j hj).2.2.1⟩⟩
theorem RSt.n {g : Sg} {m : Nat} {f t : Nat → Int32} (h : RSt g m f t) : StN g m f t := ⟨h.2.1, fun j hj => (h.2.2.2 j hj).2.2.2⟩
theorem RSt.of {g : Sg} {m : Nat} {f t : Nat → Int32} (h : StC g m f t) (h' : StN g m f t) : RSt g m f t := ⟨h.1, h'.1, h.2.1, fun j hj => ⟨(h.2.2 j hj).1, (h.2.2 j hj).2.1, (h.2.2 j hj).2.2, h'.2 j hj⟩⟩
theorem StC.fr {g g' : Sg} {m : Nat} {f t : Nat → Int32} (h : StC g m f t) (h1 : g' 11 6 = g 11 6) (h2 : g' 12 = g 12) (h3 : g' 13 = g 13) : StC g' m f t := by
  unfold StC; rw [h1, h2, h3]; exact h
theorem StN.fr {g g' : Sg} {m : Nat} {f t : Nat → Int32} (h : StN g m f t) (h1 : g' 34 11 = g 34 11) (h2 : g' 42 = g 42) : StN g' m f t := by
  unfold StN; rw [h1, h2]; exact h
def cAd (k : Nat) : Bool := k == 7 || k == 8 || k == 9 || k == 10 || k == 11 || k == 12 || k == 13 || k == 14 || k == 15
theorem Sb_add {g : Sg} {bv : Nat → Nat} {n : Nat} {sh : Int32} {tk m : Nat} {f t : Nat → Int32} {x1 x2 : Int32} {Q : Int32 → Sg → Prop} (hC : TC bv n g) (h9 : g 1 9 = sh) (h10 : g 1 10 = nI tk) (htk : tk ≤ 4) (hS : StC g m f t) (hB : BkC (NT bv n) sh tk f t g m) (hx : stOK x1 x2)
    (hk1 : m < 16 → ∀ g', (∀ c, cAd c = false → g' c = g c) → StC g' (m + 1) (upd f m x1) (upd t m x2) → BkC (NT bv n) sh tk (upd f m x1) (upd t m x2) g' (m + 1) → Q (nI (m + 1)) g') (hk2 : m = 16 → Q (-4) g) : Cb_add x1 x2 g Q := by
  have hm16 := hS.2.1
  refine Vb_add ?_
  rw [hS.1]
  by_cases hm : m < 16
  · refine brT ((nI_ltI (a := m) (b := 16) (by omega) (by omega)).mpr hm) ⟨vp_in_nI hm (by omega), vp_in_nI hm (by omega), ?_⟩
    rw [nI_clamp (show m < 2 ^ 31 by omega), nI_1, nI_pred]
    have hf : ∀ j, j < m → upd f m x1 j = f j := fun j hj => by simp [upd, show j ≠ m by omega]
    have ht : ∀ j, j < m → upd t m x2 j = t j := fun j hj => by simp [upd, show j ≠ m by omega]
    have fm : upd f m x1 m = x1 := by simp [upd]
    have tm : upd t m x2 m = x2 := by simp [upd]
    have fr1 : ∀ c, cAd c = false → (sgU (sgU (sgU g 12 m x1) 13 m x2) 11 6 (nI (m + 1))) c = g c := fun c hc => by
      have a1 : c ≠ 11 := fun hz => by rw [hz] at hc; cases hc
      have a2 : c ≠ 12 := fun hz => by rw [hz] at hc; cases hc
      have a3 : c ≠ 13 := fun hz => by rw [hz] at hc; cases hc
      funext j; rw [sg_k a1, sg_k a3, sg_k a2]
    have hC1 : TC bv n (sgU (sgU (sgU g 12 m x1) 13 m x2) 11 6 (nI (m + 1))) := hC.fr (fun j _ _ => by rw [fr1 1 rfl]) (fr1 2 rfl) (fr1 3 rfl) (fr1 4 rfl) (fr1 5 rfl) (fr1 6 rfl)
    have e12 : ∀ j, j < m + 1 → (sgU (sgU (sgU g 12 m x1) 13 m x2) 11 6 (nI (m + 1))) 12 j = upd f m x1 j := fun j hj => by
      rw [sg_k (by decide), sg_k (by decide)]
      by_cases hjm : j = m
      · rw [hjm, sg_s, fm]
      · rw [sg_j hjm, hf j (by omega)]; exact (hS.2.2 j (by omega)).2.1
    have e13 : ∀ j, j < m + 1 → (sgU (sgU (sgU g 12 m x1) 13 m x2) 11 6 (nI (m + 1))) 13 j = upd t m x2 j := fun j hj => by
      rw [sg_k (by decide)]
      by_cases hjm : j = m
      · rw [hjm, sg_s, tm]
      · rw [sg_j hjm, sg_k (by decide), ht j (by omega)]; exact (hS.2.2 j (by omega)).2.2
    have hok : ∀ j, j < m + 1 → stOK (upd f m x1 j) (upd t m x2 j) := fun j hj => by
      by_cases hjm : j = m
      · rw [hjm, fm, tm]; exact hx
      · rw [hf j (by omega), ht j (by omega)]; exact (hS.2.2 j (by omega)).1
    refine Sb_playFrom (k := m) (m := m + 1) (sh := sh) (tk := tk) hC1.net (by rw [fr1 1 rfl]; exact h9) (by rw [fr1 1 rfl]; exact h10) (by omega) (by rw [sg_s]) (by omega) hok e12 e13 (fun g' hf' hB' => ?_) (by omega) (fun j hj => ?_)
    · rw [hf' 11 rfl, sg_s]
      refine hk1 hm g' (fun c hc => ?_) ⟨by rw [hf' 11 rfl, sg_s], by omega, fun j hj => ⟨hok j hj, by rw [hf' 12 rfl]; exact e12 j hj, by rw [hf' 13 rfl]; exact e13 j hj⟩⟩ hB'
      rw [hf' c ?_, fr1 c hc]
      unfold cAd at hc
      unfold cBk
      simp at hc ⊢
      omega
    · rw [pw_cg (f' := f) (t' := t) j (fun i hi => ⟨hf i (by omega), ht i (by omega)⟩)]
      obtain ⟨y1, y2⟩ := hB j hj
      refine ⟨by rw [sg_k (by decide), sg_k (by decide), sg_k (by decide)]; exact y1, fun w hw hne => ?_⟩
      rw [sg_k (by decide), sg_k (by decide), sg_k (by decide)]
      exact y2 w hw hne
  · exact brF (fun hz => hm ((nI_ltI (a := m) (b := 16) (by omega) (by omega)).mp hz)) (hk2 (by omega))
theorem Sm_more {g : Sg} {m : Nat} {f t : Nat → Int32} {x1 x2 : Int32} {Q : Int32 → Sg → Prop} (hS : StN g m f t) (hm16 : m ≤ 16)
    (hk1 : m < 16 → ∀ g', (∀ c, c ≠ 34 → c ≠ 42 → g' c = g c) → (∀ j, j ≠ 11 → g' 34 j = g 34 j) → StN g' (m + 1) (upd f m x1) (upd t m x2) → Q (nI (m + 1)) g') (hk2 : m = 16 → Q (-4) g) : Cm_more x1 x2 g Q := by
  refine Vm_more ?_
  rw [hS.1]
  by_cases hm : m = 16
  · exact brT (by rw [hm]; rfl) (hk2 hm)
  · have hlt : m < 16 := by omega
    obtain ⟨y1, y2, y3, y4⟩ := ix2 hlt
    refine brF (fun hz => hm ((nI_eq (a := m) (b := 16) (by omega) (by omega)).mp hz)) ⟨y3, y4, ?_⟩
    rw [y1, y2, nI_1]
    refine hk1 hlt _ (fun c c34 c42 => by funext j; rw [sg_k c34, sg_k c42, sg_k c42]) (fun j hj => by rw [sg_j hj, sg_k (by decide), sg_k (by decide)]) ⟨by rw [sg_s], fun j hj => ?_⟩
    by_cases hjm : j = m
    · rw [hjm]
      exact ⟨by rw [sg_k (by decide), sg_j (by omega), sg_s]; simp [upd], by rw [sg_k (by decide), sg_s]; simp [upd]⟩
    · obtain ⟨z1, z2⟩ := hS.2 j (by omega)
      exact ⟨by rw [sg_k (by decide), sg_j (by omega), sg_j (by omega), z1]; simp [upd, hjm], by rw [sg_k (by decide), sg_j (by omega), sg_j (by omega), z2]; simp [upd, hjm]⟩
theorem Kp.ad {g g' : Sg} (h : ∀ c, cAd c = false → g' c = g c) : Kp cTx g g' := fun k j hk => by
  have hn : ¬ k ≤ 15 := fun hx => by simp [cTx, hx] at hk
  rw [h k (by unfold cAd; simp; omega)]
/-- a step more on both sides -/
theorem op_more {x1 x2 : Int32} {g : Sg} {Q : Int32 → Int32 → Sg → Prop} {R : Int32 → Sg → Prop} (hR : Rel g) (hx : stOK x1 x2) (hQ : ∀ r g', Rel g' → Q r r g') (hM' : ∀ r g1, Cm_more x1 x2 g1 (fun r' g2 => Q r r' g2) → R r g1) : Cb_add x1 x2 g R := by
  obtain ⟨⟨bv, n, sh, tk, hd, m, f, t, hC, hM, hSet, hSt, hB⟩, hJ, hSh⟩ := id hR
  refine Sb_add hC hSet.1 hSet.2.2.2.1 hSet.2.2.2.2.2.2.1 hSt.c hB hx (fun hm g1 hf1 hS1 hB1 => hM' _ _ ?_) (fun hm => hM' _ _ ?_)
  · have hN1 : StN g1 m f t := hSt.n.fr (by rw [hf1 34 rfl]) (hf1 42 rfl)
    refine Sm_more hN1 (by omega) (fun _ g2 hf2 h34 hN2 => ?_) (fun hm2 => absurd hm2 (by omega))
    refine hQ _ _ (Rel.mk' (bv := bv) (n := n) (sh := sh) (tk := tk) (hd := hd) (m := m + 1) hJ hSh ((Kp.ad hf1).tr (fun k j hk => ?_)) ?_ ?_ ?_ (RSt.of (hS1.fr (by rw [hf2 11 (by decide) (by decide)]) (hf2 12 (by decide) (by decide)) (hf2 13 (by decide) (by decide))) hN2) (hB1.fr (hf2 14 (by decide) (by decide)) (hf2 15 (by decide) (by decide))))
    · by_cases hk34 : k = 34
      · subst hk34
        simp [cTx, scA] at hk
        exact h34 j (by omega)
      · have hk42 : k ≠ 42 := fun hz => by subst hz; simp [cTx] at hk
        rw [hf2 k hk34 hk42]
    · exact hC.fr (fun j _ _ => by rw [hf2 1 (by decide) (by decide), hf1 1 rfl]) (by rw [hf2 2 (by decide) (by decide), hf1 2 rfl]) (by rw [hf2 3 (by decide) (by decide), hf1 3 rfl]) (by rw [hf2 4 (by decide) (by decide), hf1 4 rfl]) (by rw [hf2 5 (by decide) (by decide), hf1 5 rfl]) (by rw [hf2 6 (by decide) (by decide), hf1 6 rfl])
    · exact hM.fr (by rw [h34 6 (by decide), hf1 34 rfl]) (by rw [hf2 39 (by decide) (by decide), hf1 39 rfl])
    · exact hSet.fr (by rw [hf2 1 (by decide) (by decide), hf1 1 rfl]) (by rw [hf2 1 (by decide) (by decide), hf1 1 rfl]) (by rw [hf2 41 (by decide) (by decide), hf1 41 rfl]) (by rw [hf2 0 (by decide) (by decide), hf1 0 rfl])
  · exact Sm_more hSt.n (by omega) (fun hm2 => absurd hm (by omega)) (fun _ => hQ _ _ hR)
theorem op_letIn {x1 x2 : Int32} {g : Sg} {Q : Int32 → Int32 → Sg → Prop} (hR : Rel g) (hQ : ∀ r g', Rel g' → Q r r g') : Cx_letIn x1 x2 g (fun r g1 => Cm_letIn x1 x2 g1 (fun r' g2 => Q r r' g2)) := by
  by_cases hx : twoE x1 x2
  · obtain ⟨a, b, ha, hb, hab, e1, e2⟩ := twoE_of hx
    exact Vx_letIn (brT hx (op_more hR (Or.inr ⟨a, b, ha, hb, hab, e1, e2⟩) hQ (fun r g1 hm => Vm_letIn (brT hx hm))))
  · exact Vx_letIn (brF hx (Vm_letIn (brF hx (hQ _ _ hR))))
theorem op_pull {x1 : Int32} {g : Sg} {Q : Int32 → Int32 → Sg → Prop} (hR : Rel g) (hQ : ∀ r g', Rel g' → Q r r g') : Cx_pull x1 g (fun r g1 => Cm_pull x1 g1 (fun r' g2 => Q r r' g2)) := by
  by_cases hx : isW x1
  · obtain ⟨w, hw, e1⟩ := isW_of hx
    exact Vx_pull (brT hx (op_more hR (Or.inl ⟨rfl, w, hw, e1⟩) hQ (fun r g1 hm => Vm_pull (brT hx hm))))
  · exact Vx_pull (brF hx (Vm_pull (brF hx (hQ _ _ hR))))
theorem op_back {g : Sg} {Q : Int32 → Int32 → Sg → Prop} (hR : Rel g) (hQ : ∀ r g', Rel g' → Q r r g') : Cx_back g (fun r g1 => Cm_back g1 (fun r' g2 => Q r r' g2)) := by
  obtain ⟨⟨bv, n, sh, tk, hd, m, f, t, hC, hM, hSet, hSt, hB⟩, hJ, hSh⟩ := id hR
  have hm16 := hSt.2.2.1
  refine Vx_back ?_
  rw [hSt.1]
  by_cases hm : m = 0
  · refine brT (by rw [hm]; rfl) (Vm_back (brT (by rw [hSt.2.1, hm]; rfl) (hQ _ _ hR)))
  · have hs : nI m - 1 = nI (m - 1) := pk_sub (a := m) (b := 1) (by omega)
    refine brF (fun hz => hm ((nI_eq (a := m) (b := 0) (by omega) (by omega)).mp hz)) (Vb_dropStep (brF (by rw [hSt.1]; exact nI_nle (by omega) (by omega)) (Vm_back (brF ?_ ?_))))
    · rw [sg_k (by decide), hSt.2.1]
      exact fun hz => hm ((nI_eq (a := m) (b := 0) (by omega) (by omega)).mp hz)
    · rw [sg_s, sg_k (by decide), hSt.1, hSt.2.1, hs]
      refine hQ _ _ (Rel.mk' (bv := bv) (n := n) (sh := sh) (tk := tk) (hd := hd) (m := m - 1) (f := f) (t := t) hJ hSh (((Kp.rf _ _).u rfl).u rfl) ?_ ?_ ?_ ⟨?_, ?_, by omega, fun j hj => ?_⟩ ?_)
      · exact hC.fr (fun j _ _ => by rw [sg_k (by decide), sg_k (by decide)]) (by funext j; rw [sg_k (by decide), sg_k (by decide)]) (by funext j; rw [sg_k (by decide), sg_k (by decide)]) (by funext j; rw [sg_k (by decide), sg_k (by decide)]) (by funext j; rw [sg_k (by decide), sg_k (by decide)]) (by funext j; rw [sg_k (by decide), sg_k (by decide)])
      · exact hM.fr (by rw [sg_j (by decide), sg_k (by decide)]) (by funext j; rw [sg_k (by decide), sg_k (by decide)])
      · exact hSet.fr (by rw [sg_k (by decide), sg_k (by decide)]) (by rw [sg_k (by decide), sg_k (by decide)]) (by funext j; rw [sg_k (by decide), sg_k (by decide)]) (by rw [sg_k (by decide), sg_k (by decide)])
      · rw [sg_k (by decide), sg_s]
      · rw [sg_s]
      · obtain ⟨z1, z2, z3, z4, z5⟩ := hSt.2.2.2 j (by omega)
        exact ⟨z1, by rw [sg_k (by decide), sg_k (by decide)]; exact z2, by rw [sg_k (by decide), sg_k (by decide)]; exact z3, by rw [sg_k (by decide), sg_k (by decide)]; exact z4, by rw [sg_k (by decide), sg_k (by decide)]; exact z5⟩
      · intro j hj
        obtain ⟨y1, y2⟩ := hB j (by omega)
        refine ⟨by rw [sg_k (by decide), sg_k (by decide)]; exact y1, fun w hw hne => ?_⟩
        rw [sg_k (by decide), sg_k (by decide)]
        exact y2 w hw hne
