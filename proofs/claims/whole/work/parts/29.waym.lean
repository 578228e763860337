/-! the reference: findFar, findWay -/
def NM (N : Net) (g : Sg) : Prop := netOK N ∧ g 34 8 = nI N.1 ∧ ∀ p, p < N.1 → g 40 (4 * p) = nI (nA N p) ∧ g 40 (4 * p + 1) = nI (nB N p) ∧ g 40 (4 * p + 2) = nI (nL N p) ∧ g 40 (4 * p + 3) = nI (nD N p)
def OM (g : Sg) (p : Nat) : Bool := !bt (g 41 0) p && decide (g 44 p < g 41 1)
theorem NM.of {N : Net} {g g' : Sg} (h : NM N g) (h34 : g' 34 8 = g 34 8) (h40 : g' 40 = g 40) : NM N g' := by
  unfold NM
  rw [h34, h40]
  exact h
theorem OM.of {g g' : Sg} (h1 : g' 41 = g 41) (h8 : g' 44 = g 44) : OM g' = OM g := by
  funext p
  unfold OM
  rw [h1, h8]
theorem om_t {g : Sg} {p : Nat} (hp : p < 16) : (tbb (g 41 0) (nI p) = false ∧ g 44 (nI p).toNatClampNeg < g 41 1) ↔ OM g p = true := by
  rw [tbb_n _ (by omega), nI_clamp (by omega)]
  simp [OM]
theorem ix4 {p : Nat} (hp : p < 16) : (4 * nI p).toNatClampNeg = 4 * p ∧ (4 * nI p + 1).toNatClampNeg = 4 * p + 1 ∧ (4 * nI p + 2).toNatClampNeg = 4 * p + 2 ∧ (4 * nI p + 3).toNatClampNeg = 4 * p + 3 ∧ vp_in (4 * nI p) 64 ∧ vp_in (4 * nI p + 1) 64 ∧ vp_in (4 * nI p + 2) 64 ∧ vp_in (4 * nI p + 3) 64 := by
  rw [mulR, addL, addL, addL]
  exact ⟨nI_clamp (by omega), nI_clamp (by omega), nI_clamp (by omega), nI_clamp (by omega), vp_in_nI (by omega) (by omega), vp_in_nI (by omega) (by omega), vp_in_nI (by omega) (by omega), vp_in_nI (by omega) (by omega)⟩
def FM (g : Sg) (d : Nat → Nat) : Prop := ∀ v, v < 8 → g 45 v = nI (d v)
theorem FM.w {g : Sg} {d : Nat → Nat} (h : FM g d) (v0 y0 : Nat) : FM (sgU g 45 v0 (nI y0)) (updN d v0 y0) := by
  intro v hv
  unfold updN
  by_cases hx : v = v0
  · rw [if_pos hx, hx, sg_s]
  · rw [if_neg hx, sg_j hx]; exact h v hv
theorem NM.fr {N : Net} {g g' : Sg} (h : NM N g) (hk : ∀ k, k ≠ 45 → g' k = g k) : NM N g' := h.of (by rw [hk 34 (by decide)]) (hk 40 (by decide))
theorem OM.fr {g g' : Sg} (hk : ∀ k, k ≠ 45 → g' k = g k) : OM g' = OM g := OM.of (hk 41 (by decide)) (hk 44 (by decide))
theorem mfar_in {N : Net} {g0 : Sg} {D d0 : Nat → Nat} {rr : Nat} {Q : Sg → Prop} (hN : NM N g0) (hst : ∀ p, p < N.1 → OM g0 p = true → stb N D p) (hd0 : ∀ v, v < 8 → d0 v ≤ 10000)
    (hk : ∀ (g' : Sg) (d' : Nat → Nat), FM g' d' → (∀ k, k ≠ 45 → g' k = g0 k) → RI8 N (OM g0) D d0 d' N.1 → Hm_findFar_34 (nI (rr + 1)) g' Q) :
    ∀ (m p : Nat) (g : Sg) (d : Nat → Nat), p + m = N.1 → FM g d → (∀ k, k ≠ 45 → g k = g0 k) → RI8 N (OM g0) D d0 d p → Hm_findFar_42 (nI rr) (nI p) g Q := by
  have h16 := hN.1.1
  intro m
  induction m with
  | zero =>
    intro p g d hpm hF hfr hR
    have hpn : p = N.1 := by omega
    refine Vm_findFar_42 (brT ?_ ?_)
    · rw [(hN.fr hfr).2.1, hpn]; exact nI_le (Nat.le_refl _) (by omega)
    · rw [nI_1]
      exact hk g d hF hfr (by rw [← hpn]; exact hR)
  | succ m ih =>
    intro p g d hpm hF hfr hR
    have hpn : p < N.1 := by omega
    have hNg := hN.fr hfr
    obtain ⟨v1, v2, v3, -⟩ := hNg.2.2 p hpn
    obtain ⟨w1, w2, w3, w4, w5, w6⟩ := hN.1.2 p hpn
    obtain ⟨x1, x2, x3, -, x5, x6, x7, -⟩ := ix4 (show p < 16 by omega)
    have iA : vp_in (nI (nA N p)) 8 := vp_in_nI w1 (by omega)
    have iB : vp_in (nI (nB N p)) 8 := vp_in_nI w2 (by omega)
    have dA : d (nA N p) ≤ 10000 := Nat.le_trans (hR.1 _ w1) (hd0 _ w1)
    have dB : d (nB N p) ≤ 10000 := Nat.le_trans (hR.1 _ w2) (hd0 _ w2)
    refine Vm_findFar_42 (brF ?_ ⟨x5, x6, x7, vp_in_nI (by omega) (by omega), ?_⟩)
    · rw [hNg.2.1]; exact nI_ge hpn (by omega)
    · have hoc := om_t (g := g) (p := p) (by omega)
      rw [OM.fr hfr] at hoc
      by_cases ho : OM g0 p = true
      · refine brT (hoc.mpr ho) ?_
        have hs := hst p hpn ho
        have lA := hR.2.1 _ w1
        have lB := hR.2.1 _ w2
        have uA := hR.1 _ w1
        have uB := hR.1 _ w2
        -- the second half, from any far[a] that is the lesser of the two
        have half : ∀ (g' : Sg) (ya : Nat), FM g' (updN d (nA N p) ya) → (∀ k, k ≠ 45 → g' k = g0 k) → ya ≤ d (nA N p) → ya ≤ d (nB N p) + nL N p → D (nA N p) ≤ ya → Hm_findFar_139 (nI rr) (nI p) (nI (nA N p)) (nI (nB N p)) (nI (nL N p)) g' Q := by
          intro g' ya hF' hfr' hy1 hy2 hy3
          have eA : g' 45 (nA N p) = nI ya := by rw [hF' _ w1]; unfold updN; rw [if_pos rfl]
          have eB : g' 45 (nB N p) = nI (d (nB N p)) := by rw [hF' _ w2]; unfold updN; rw [if_neg (Ne.symm w3)]
          have fin : ∀ (yb : Nat), yb ≤ d (nB N p) → yb ≤ ya + nL N p → D (nB N p) ≤ yb → Hm_findFar_42 (nI rr) (nI p + 1) (sgU g' 45 (nB N p) (nI yb)) Q := by
            intro yb hb1 hb2 hb3
            rw [nI_1]
            refine ih (p + 1) _ _ (by omega) (hF'.w (nB N p) yb) (fun k hk45 => by funext j; rw [sg_k hk45, hfr' k hk45]) ⟨fun v hv => ?_, fun v hv => ?_, fun q hq hoq => ?_⟩
            · have := hR.1 v hv
              unfold updN
              split
              · rename_i hx; rw [hx]; omega
              · split
                · rename_i hx; rw [hx]; omega
                · omega
            · have := hR.2.1 v hv
              unfold updN
              split
              · rename_i hx; rw [hx]; exact hb3
              · split
                · rename_i hx; rw [hx]; exact hy3
                · omega
            · have mono : ∀ v, updN (updN d (nA N p) ya) (nB N p) yb v ≤ d v := by
                intro v
                unfold updN
                split
                · rename_i hx; rw [hx]; omega
                · split
                  · rename_i hx; rw [hx]; omega
                  · omega
              by_cases hqp : q = p
              · rw [hqp]
                unfold updN
                rw [if_pos rfl, if_neg w3, if_pos rfl]
                omega
              · obtain ⟨j1, j2⟩ := hR.2.2 q (by omega) hoq
                have := mono (nB N q)
                have := mono (nA N q)
                omega
          refine Vm_findFar_139 ⟨iA, iB, ?_⟩
          rw [nI_clamp (show nB N p < 2 ^ 31 by omega), nI_clamp (show nA N p < 2 ^ 31 by omega), eA, eB, nI_add]
          by_cases hc : d (nB N p) ≤ ya + nL N p
          · exact brT (nI_le hc (by omega)) ⟨iB, iB, fin _ (Nat.le_refl _) hc lB⟩
          · refine brF (nI_ge (by omega) (by omega)) ⟨iA, iB, fin _ (by omega) (Nat.le_refl _) ?_⟩
            have := hs.2
            omega
        rw [x1, x2, x3, v1, v2, v3, nI_clamp (show nB N p < 2 ^ 31 by omega), nI_clamp (show nA N p < 2 ^ 31 by omega), hF _ w1, hF _ w2, nI_add]
        refine ⟨iB, iA, ?_⟩
        by_cases hc : d (nA N p) ≤ d (nB N p) + nL N p
        · refine brT (nI_le hc (by omega)) ⟨iA, iA, half _ _ (hF.w _ _) (fun k hk45 => by funext j; rw [sg_k hk45, hfr k hk45]) (Nat.le_refl _) hc lA⟩
        · refine brF (nI_ge (by omega) (by omega)) ⟨iB, iA, half _ _ (hF.w _ _) (fun k hk45 => by funext j; rw [sg_k hk45, hfr k hk45]) (by omega) (Nat.le_refl _) ?_⟩
          have := hs.1
          omega
      · refine brF (fun hx => ho (hoc.mp hx)) ?_
        rw [nI_1]
        refine ih (p + 1) g d (by omega) hF hfr ⟨hR.1, hR.2.1, fun q hq hoq => ?_⟩
        by_cases hqp : q = p
        · rw [hqp] at hoq; exact absurd hoq ho
        · exact hR.2.2 q (by omega) hoq
theorem mfar_out {N : Net} {g0 : Sg} {D : Nat → Nat} {t : Nat} {Q : Sg → Prop} (hN : NM N g0) (ht : t < 8) (hD : IsD N (OM g0) t 10000 D) (hk : ∀ g', FM g' D → (∀ k, k ≠ 45 → g' k = g0 k) → Q g') :
    ∀ (m rr : Nat) (g : Sg) (d : Nat → Nat), rr + m = 8 → FM g d → (∀ k, k ≠ 45 → g k = g0 k) → d t = 0 → (∀ v, v < 8 → d v ≤ 10000) → (∀ v, v < 8 → D v ≤ d v) → (un D d = 0 ∨ un D d + rr ≤ 7) → Hm_findFar_34 (nI rr) g Q := by
  intro m
  induction m with
  | zero =>
    intro rr g d hrm hF hfr hdt hd1 hDd hu
    have hr8 : rr = 8 := by omega
    have hz : un D d = 0 := by omega
    rw [hr8]
    refine Vm_findFar_34 (brT (by decide) ?_)
    exact hk g (fun v hv => by rw [hF v hv, un_0 hz v hv]) hfr
  | succ m ih =>
    intro rr g d hrm hF hfr hdt hd1 hDd hu
    refine Vm_findFar_34 (brF (fun hx => ?_) ?_)
    · have := (nI_leI (a := 8) (b := rr) (by omega) (by omega)).mp hx
      omega
    · refine mfar_in (D := D) (d0 := d) hN hD.2.2.1 hd1 (fun g' d' k1 k2 k3 => ?_) N.1 0 g d (by omega) hF hfr ⟨fun _ _ => Nat.le_refl _, hDd, fun q hq => absurd hq (by omega)⟩
      have hle : un D d' ≤ un D d := un_le k3.1 k3.2.1
      have hdt' : d' t = 0 := by have := k3.1 t ht; omega
      have hd1' : ∀ v, v < 8 → d' v ≤ 10000 := fun v hv => Nat.le_trans (k3.1 v hv) (hd1 v hv)
      refine ih (rr + 1) g' d' (by omega) k1 k2 hdt' hd1' k3.2.1 ?_
      rcases round_un hN.1 hD ht hdt hd1 hDd k3 with hz | hz
      · left; omega
      · omega
theorem mfar_init {t : Nat} {g0 : Sg} {Q : Sg → Prop} (ht : t < 8) (hk : ∀ g', FM g' (fun w => if w = t then 0 else 10000) → (∀ k, k ≠ 45 → g' k = g0 k) → Hm_findFar_34 0 g' Q) :
    ∀ (m v : Nat) (g : Sg), v + m = 8 → (∀ w, w < v → g 45 w = nI (if w = t then 0 else 10000)) → (∀ k, k ≠ 45 → g k = g0 k) → Hm_findFar_2 (nI t) (nI v) g Q := by
  intro m
  induction m with
  | zero =>
    intro v g hvm hF hfr
    have hv8 : v = 8 := by omega
    rw [hv8] at hF ⊢
    exact Vm_findFar_2 (brT (by decide) (hk g hF hfr))
  | succ m ih =>
    intro v g hvm hF hfr
    refine Vm_findFar_2 (brF (fun hx => ?_) ?_)
    · have := (nI_leI (a := 8) (b := v) (by omega) (by omega)).mp hx
      omega
    · have iV : vp_in (nI v) 8 := vp_in_nI (by omega) (by omega)
      rw [nI_clamp (show v < 2 ^ 31 by omega), nI_1]
      by_cases hvt : v = t
      · refine brT (by rw [hvt]) ⟨iV, ih (v + 1) _ (by omega) (fun w hw => ?_) (fun k hk45 => by funext j; rw [sg_k hk45, hfr k hk45])⟩
        by_cases hwv : w = v
        · rw [hwv, sg_s, if_pos hvt]; rfl
        · rw [sg_j hwv]; exact hF w (by omega)
      · refine brF (fun hx => hvt ((nI_eq (by omega) (by omega)).mp hx)) ⟨iV, ih (v + 1) _ (by omega) (fun w hw => ?_) (fun k hk45 => by funext j; rw [sg_k hk45, hfr k hk45])⟩
        by_cases hwv : w = v
        · rw [hwv, sg_s, if_neg hvt]; rfl
        · rw [sg_j hwv]; exact hF w (by omega)
theorem Sm_findFar {N : Net} {g : Sg} {D : Nat → Nat} {t : Nat} {Q : Sg → Prop} (hN : NM N g) (ht : t < 8) (hD : IsD N (OM g) t 10000 D) (hk : ∀ g', FM g' D → (∀ k, k ≠ 45 → g' k = g k) → Q g') : Cm_findFar (nI t) g Q := by
  refine Vm_findFar (mfar_init ht (fun g' hF hfr => ?_) 8 0 g (by omega) (fun w hw => absurd hw (by omega)) (fun _ _ => rfl))
  have hb : ∀ v, v < 8 → D v ≤ (fun w => if w = t then 0 else 10000) v := fun v hv => by
    try dsimp only
    split
    · rename_i hx; rw [hx, hD.1]; omega
    · exact hD.2.1 v hv
  exact mfar_out hN ht hD hk 8 0 g' _ (by omega) hF hfr (by simp) (fun v _ => by (try dsimp only); split <;> omega) hb (Or.inr (by
    have := un_7 (D := D) (d := fun w => if w = t then 0 else 10000) ht (by simp [hD.1])
    omega))
