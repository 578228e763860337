/-! read -/
theorem upd_id (F : Nat → Int32) (k : Nat) : upd F k (F k) = F := by
  funext j
  unfold upd
  split
  · rename_i h; rw [h]
  · rfl
/-- may the d-th let-in of the sheet be -/
def cont (v : Nat → Int32) (z m d : Nat) : Prop := 2 * d + 2 ≤ z ∧ twoE (v (2 * d)) (v (2 * d + 1)) ∧ m + d < 16
theorem m4_nI {a : Nat} (ha : a < 2 ^ 31) : ¬ nI a = -4 := fun h => by
  have h1 := nI_toInt ha
  rw [h] at h1
  have h2 : (-4 : Int32).toInt = -4 := by decide
  omega
theorem readC {s z m : Nat} {v : Nat → Int32} {F T : Nat → Int32} {g0 : Sg} {bv : Nat → Nat} {n : Nat} {sh : Int32} {tk : Nat} {Q : Int32 → Sg → Prop} (hs4 : s < 4) (hz : z ≤ 60) (h33 : g0 33 s = nI z) (hv : ∀ k, k < z → g0 31 (s * 60 + k) = v k)
    (hC : TC bv n g0) (h9 : g0 1 9 = sh) (h10 : g0 1 10 = nI tk) (htk : tk ≤ 4) (hF : ∀ d, F (m + d) = v (2 * d)) (hT : ∀ d, T (m + d) = v (2 * d + 1))
    (hk : ∀ (D : Nat) (g' : Sg), (∀ d, d < D → cont v z m d) → ¬ cont v z m D → D ≤ 30 → (∀ c, cAd c = false → g' c = g0 c) → StC g' (m + D) F T → BkC (NT bv n) sh tk F T g' (m + D) → Q (nI D) g') :
    ∀ (k d : Nat) (g : Sg), d + k = 31 → (∀ e, e < d → cont v z m e) → (∀ c, cAd c = false → g c = g0 c) → StC g (m + d) F T → BkC (NT bv n) sh tk F T g (m + d) → Hx_read_38 (nI s) (nI d) (nI (2 * d)) g Q := by
  intro k
  induction k with
  | zero =>
    intro d g hdk hall _ _ _
    have := (hall 30 (by omega)).1
    omega
  | succ k ih =>
    intro d g hdk hall hfr hS hB
    have hm16 := hS.2.1
    refine Vx_read_38 ⟨vp_in_nI hs4 (by omega), ?_⟩
    rw [nI_clamp (show s < 2 ^ 31 by omega), hfr 33 rfl, h33, show nI (2 * d) + 1 = nI (2 * d + 1) from nI_add _ 1, show nI (2 * d) + 2 = nI (2 * (d + 1)) from nI_add _ 2]
    rcases Nat.lt_or_ge (2 * d + 1) z with hlt | hge
    · refine brF (nI_ge hlt (by omega)) ?_
      obtain ⟨c1, c2⟩ := cl60 hs4 (show 2 * d < 60 by omega)
      obtain ⟨c3, c4⟩ := cl60 hs4 (show 2 * d + 1 < 60 by omega)
      rw [c1, c3, hfr 31 rfl, hv _ (by omega), hv _ hlt]
      refine ⟨c2, c4, ?_⟩
      by_cases he : twoE (v (2 * d)) (v (2 * d + 1))
      · refine brT he ?_
        obtain ⟨a, b, ha, hb, hab, e1, e2⟩ := twoE_of he
        have hC' : TC bv n g := hC.fr (fun j _ _ => by rw [hfr 1 rfl]) (hfr 2 rfl) (hfr 3 rfl) (hfr 4 rfl) (hfr 5 rfl) (hfr 6 rfl)
        refine Sb_add hC' (by rw [hfr 1 rfl]; exact h9) (by rw [hfr 1 rfl]; exact h10) htk hS hB (Or.inr ⟨a, b, ha, hb, hab, e1, e2⟩) (fun hlt16 g' hf' hS' hB' => brF (m4_nI (by omega)) ?_) (fun hfull => brT rfl ?_)
        · rw [← hF d, ← hT d, upd_id, upd_id] at hS' hB'
          rw [nI_1]
          refine ih (d + 1) g' (by omega) (fun e hed => ?_) (fun c hc => (hf' c hc).trans (hfr c hc)) hS' hB'
          by_cases hx : e = d
          · rw [hx]; exact ⟨by omega, he, hlt16⟩
          · exact hall e (by omega)
        · exact hk d g hall (fun hc => absurd hc.2.2 (by omega)) (by omega) hfr hS hB
      · exact brF he (hk d g hall (fun hc => he hc.2.1) (by omega) hfr hS hB)
    · exact brT (nI_le hge (by omega)) (hk d g hall (fun hc => absurd hc.1 (by omega)) (by omega) hfr hS hB)
theorem readM {s z m D : Nat} {v : Nat → Int32} {F T : Nat → Int32} {g0 : Sg} {Q : Int32 → Sg → Prop} (hs4 : s < 4) (hz : z ≤ 60) (h36 : g0 36 s = nI z) (hv : ∀ k, k < z → g0 37 (s * 60 + k) = v k) (hF : ∀ d, F (m + d) = v (2 * d)) (hT : ∀ d, T (m + d) = v (2 * d + 1)) (hD : ∀ d, d < D → cont v z m d) (hnD : ¬ cont v z m D) (hD30 : D ≤ 30) (hmD : m + D ≤ 16)
    (hk : ∀ g', (∀ c, c ≠ 34 → c ≠ 42 → g' c = g0 c) → (∀ j, j ≠ 11 → g' 34 j = g0 34 j) → StN g' (m + D) F T → Q (nI D) g') :
    ∀ (k d : Nat) (g : Sg), d + k = D → (∀ c, c ≠ 34 → c ≠ 42 → g c = g0 c) → (∀ j, j ≠ 11 → g 34 j = g0 34 j) → StN g (m + d) F T → Hm_read_29 (nI s) (nI d) 1 g Q := by
  intro k
  induction k with
  | zero =>
    intro d g hdk hfr h34 hS
    have hd : d = D := by omega
    have hq : ∀ g', g' = g → Q (nI d) g' := fun g' hx => by rw [hx, hd]; exact hk g hfr h34 (by rw [← hd]; exact hS)
    refine Vm_read_29 (brF (by decide) ⟨vp_in_nI hs4 (by omega), ?_⟩)
    rw [nI_clamp (show s < 2 ^ 31 by omega), hfr 36 (by decide) (by decide), h36, show 2 * nI d = nI (2 * d) from pk_mul 2 d, show nI (2 * d) + 2 = nI (2 * d + 2) from nI_add _ 2]
    rcases Nat.lt_or_ge z (2 * d + 2) with hlt | hge
    · exact brT (nI_lt hlt (by omega)) (hq g rfl)
    · have e1 : 60 * nI s + nI (2 * d) = nI (s * 60 + 2 * d) := by rw [show 60 * nI s = nI (60 * s) from pk_mul 60 s, nI_add, Nat.mul_comm 60 s]
      have e2 : nI (s * 60 + 2 * d) + 1 = nI (s * 60 + (2 * d + 1)) := nI_add _ 1
      rw [e1, e2, nI_clamp (show s * 60 + 2 * d < 2 ^ 31 by omega), nI_clamp (show s * 60 + (2 * d + 1) < 2 ^ 31 by omega), hfr 37 (by decide) (by decide), hv _ (show 2 * d < z by omega), hv _ (show 2 * d + 1 < z by omega)]
      refine brF (nI_nlt hge (by omega)) ⟨vp_in_nI (by omega) (by omega), vp_in_nI (by omega) (by omega), ?_⟩
      have stop : ∀ r : Int32, r < 0 → (r < 0 → Hm_read_29 (nI s) (nI d + 0) 0 g Q) ∧ (¬ r < 0 → Hm_read_29 (nI s) (nI d + 1) 1 g Q) := fun r hr => brT hr (Vm_read_29 (brT rfl (by rw [show nI d + 0 = nI d from nI_add d 0]; exact hq g rfl)))
      by_cases he : twoE (v (2 * d)) (v (2 * d + 1))
      · refine Vm_letIn (brT he (Sm_more hS (by omega) (fun hlt16 => ?_) (fun _ => stop _ (by decide))))
        rw [hd] at hge he hlt16
        exact absurd ⟨hge, he, hlt16⟩ hnD
      · exact Vm_letIn (brF he (stop _ (by decide)))
  | succ k ih =>
    intro d g hdk hfr h34 hS
    obtain ⟨q1, q2, q3⟩ := hD d (by omega)
    refine Vm_read_29 (brF (by decide) ⟨vp_in_nI hs4 (by omega), ?_⟩)
    rw [nI_clamp (show s < 2 ^ 31 by omega), hfr 36 (by decide) (by decide), h36, show 2 * nI d = nI (2 * d) from pk_mul 2 d, show nI (2 * d) + 2 = nI (2 * d + 2) from nI_add _ 2]
    have e1 : 60 * nI s + nI (2 * d) = nI (s * 60 + 2 * d) := by rw [show 60 * nI s = nI (60 * s) from pk_mul 60 s, nI_add, Nat.mul_comm 60 s]
    have e2 : nI (s * 60 + 2 * d) + 1 = nI (s * 60 + (2 * d + 1)) := nI_add _ 1
    rw [e1, e2, nI_clamp (show s * 60 + 2 * d < 2 ^ 31 by omega), nI_clamp (show s * 60 + (2 * d + 1) < 2 ^ 31 by omega), hfr 37 (by decide) (by decide), hv _ (show 2 * d < z by omega), hv _ (show 2 * d + 1 < z by omega)]
    refine brF (nI_nlt q1 (by omega)) ⟨vp_in_nI (by omega) (by omega), vp_in_nI (by omega) (by omega), Vm_letIn (brT q2 (Sm_more hS (by omega) (fun _ g' hf' h34' hS' => brF (nI_pos (by omega)) ?_) (fun hx => absurd hx (by omega))))⟩
    rw [← hF d, ← hT d, upd_id, upd_id] at hS'
    rw [nI_1]
    exact ih (d + 1) g' (by omega) (fun c c34 c42 => (hf' c c34 c42).trans (hfr c c34 c42)) (fun j j11 => (h34' j j11).trans (h34 j j11)) hS'
theorem op_read {x1 : Int32} {g : Sg} {Q : Int32 → Int32 → Sg → Prop} (hR : Rel g) (hQ : ∀ r g', Rel g' → Q r r g') : Cx_read x1 g (fun r g1 => Cm_read x1 g1 (fun r' g2 => Q r r' g2)) := by
  obtain ⟨⟨bv, n, sh, tk, hd, m, f, t, hC, hM, hSet, hSt, hB⟩, hJ, hSh⟩ := id hR
  by_cases hs : isS x1
  · obtain ⟨s, hs4, rfl⟩ := isS_of hs
    have is : vp_in (nI s) 4 := vp_in_nI hs4 (by omega)
    refine Vx_read (brT hs ⟨is, ?_⟩)
    rw [nI_clamp (show s < 2 ^ 31 by omega)]
    rcases hSh.2 s hs4 with ⟨a1, a2⟩ | ⟨fo, z, f2, z60, a1, a2, a3, a4, a5⟩
    · refine brT a1 (Vm_read (brT hs ⟨is, ?_⟩))
      rw [nI_clamp (show s < 2 ^ 31 by omega), sg_k (by decide), a2]
      exact brF ng1 (hQ _ _ (hR.sh (Kp.find g 1) (hSh.find 1)))
    · refine brF (by rw [a1]; exact nI_m1 (by omega)) ?_
      have hm16 := hSt.2.2.1
      let v : Nat → Int32 := fun k => g 31 (s * 60 + k)
      let F : Nat → Int32 := fun j => if j < m then f j else v (2 * (j - m))
      let T : Nat → Int32 := fun j => if j < m then t j else v (2 * (j - m) + 1)
      have hF : ∀ d, F (m + d) = v (2 * d) := fun d => by show (if m + d < m then _ else _) = _; rw [if_neg (by omega), Nat.add_sub_cancel_left]
      have hT : ∀ d, T (m + d) = v (2 * d + 1) := fun d => by show (if m + d < m then _ else _) = _; rw [if_neg (by omega), Nat.add_sub_cancel_left]
      have fF : ∀ j, j < m → F j = f j := fun j hj => by show (if j < m then _ else _) = _; rw [if_pos hj]
      have tT : ∀ j, j < m → T j = t j := fun j hj => by show (if j < m then _ else _) = _; rw [if_pos hj]
      have hS0 : StC g (m + 0) F T := ⟨hSt.1, hm16, fun j hj => by rw [fF j hj, tT j hj]; exact hSt.c.2.2 j hj⟩
      have hB0 : BkC (NT bv n) sh tk F T g (m + 0) := fun j hj => by rw [pw_cg (f' := f) (t' := t) j (fun i hi => ⟨fF i (by omega), tT i (by omega)⟩)]; exact hB j hj
      have hN0 : StN g (m + 0) F T := ⟨hSt.2.1, fun j hj => by rw [fF j hj, tT j hj]; exact hSt.n.2 j hj⟩
      refine readC (v := v) (F := F) (T := T) (m := m) (g0 := g) hs4 z60 a3 (fun k _ => rfl) hC hSet.1 hSet.2.2.2.1 hSet.2.2.2.2.2.2.1 hF hT (fun D g1 hall hnD hD30 hf1 hS1 hB1 => ?_) 31 0 g (by omega) (fun e he => absurd he (by omega)) (fun _ _ => rfl) hS0 hB0
      refine Vm_read (brT hs ⟨is, ?_⟩)
      rw [nI_clamp (show s < 2 ^ 31 by omega), hf1 35 rfl, a2]
      refine brT (nI_pos' (by omega)) ?_
      refine readM (v := v) (F := F) (T := T) (m := m) (D := D) (g0 := g1) hs4 z60 (by rw [hf1 36 rfl]; exact a4) (fun k hk => by rw [hf1 37 rfl]; exact (a5 k hk).symm) hF hT hall hnD hD30 hS1.2.1 (fun g2 hf2 h34 hN2 => ?_) D 0 g1 (by omega) (fun _ _ _ => rfl) (fun _ _ => rfl) (hN0.fr (by rw [hf1 34 rfl]) (hf1 42 rfl))
      refine hQ _ _ (Rel.mk' (bv := bv) (n := n) (sh := sh) (tk := tk) (hd := hd) (m := m + D) (f := F) (t := T) hJ hSh ((Kp.ad hf1).tr (fun k j hk => ?_)) ?_ ?_ ?_ (RSt.of (hS1.fr (by rw [hf2 11 (by decide) (by decide)]) (hf2 12 (by decide) (by decide)) (hf2 13 (by decide) (by decide))) hN2) (hB1.fr (hf2 14 (by decide) (by decide)) (hf2 15 (by decide) (by decide))))
      · by_cases hk34 : k = 34
        · subst hk34
          simp [cTx, scA] at hk
          exact h34 j (by omega)
        · have hk42 : k ≠ 42 := fun hz => by subst hz; simp [cTx] at hk
          rw [hf2 k hk34 hk42]
      · exact hC.fr (fun j _ _ => by rw [hf2 1 (by decide) (by decide), hf1 1 rfl]) (by rw [hf2 2 (by decide) (by decide), hf1 2 rfl]) (by rw [hf2 3 (by decide) (by decide), hf1 3 rfl]) (by rw [hf2 4 (by decide) (by decide), hf1 4 rfl]) (by rw [hf2 5 (by decide) (by decide), hf1 5 rfl]) (by rw [hf2 6 (by decide) (by decide), hf1 6 rfl])
      · exact hM.fr (by rw [h34 6 (by decide), hf1 34 rfl]) (by rw [hf2 39 (by decide) (by decide), hf1 39 rfl])
      · exact hSet.fr (by rw [hf2 1 (by decide) (by decide), hf1 1 rfl]) (by rw [hf2 1 (by decide) (by decide), hf1 1 rfl]) (by rw [hf2 41 (by decide) (by decide), hf1 41 rfl]) (by rw [hf2 0 (by decide) (by decide), hf1 0 rfl])
  · exact Vx_read (brF hs (Vm_read (brF hs (hQ _ _ hR))))
