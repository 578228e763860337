/-! the reference: findFar, findWay -/
def NM (N : Net) (g : Sg) : Prop := netOK N ∧ g 34 8 = nI N.1 ∧ ∀ p, p < N.1 → g 40 (4 * p) = nI (nA N p) ∧ g 40 (4 * p + 1) = nI (nB N p) ∧ g 40 (4 * p + 2) = nI (nL N p) ∧ g 40 (4 * p + 3) = nI (nD N p)
def OM (g : Sg) (p : Nat) : Bool := !bt (g 41 0) p && decide (g 44 p < g 41 1)
theorem NM.of {N : Net} {g g' : Sg} (h : NM N g) (h34 : g' 34 8 = g 34 8) (h40 : g' 40 = g 40) : NM N g' := by
  unfold NM
  rw [h34, h40]
  exact h
theorem OM.of {g g' : Sg} (h1 : g' 41 = g 41) (h8 : g' 44 = g 44) : OM g' = OM g := by
  funext p
  unfold OM
  rw [h1, h8]
theorem om_t {g : Sg} {p : Nat} (hp : p < 16) : (tbb (g 41 0) (nI p) = false ∧ g 44 (nI p).toNatClampNeg < g 41 1) ↔ OM g p = true := by
  rw [tbb_n _ (by omega), nI_clamp (by omega)]
  simp [OM]
theorem ix4 {p : Nat} (hp : p < 16) : (4 * nI p).toNatClampNeg = 4 * p ∧ (4 * nI p + 1).toNatClampNeg = 4 * p + 1 ∧ (4 * nI p + 2).toNatClampNeg = 4 * p + 2 ∧ (4 * nI p + 3).toNatClampNeg = 4 * p + 3 ∧ vp_in (4 * nI p) 64 ∧ vp_in (4 * nI p + 1) 64 ∧ vp_in (4 * nI p + 2) 64 ∧ vp_in (4 * nI p + 3) 64 := by
  rw [mulR, addL, addL, addL]
  exact ⟨nI_clamp (by omega), nI_clamp (by omega), nI_clamp (by omega), nI_clamp (by omega), vp_in_nI (by omega) (by omega), vp_in_nI (by omega) (by omega), vp_in_nI (by omega) (by omega), vp_in_nI (by omega) (by omega)⟩
def FM (g : Sg) (d : Nat → Nat) : Prop := ∀ v, v < 8 → g 45 v = nI (d v)
theorem FM.w {g : Sg} {d : Nat → Nat} (h : FM g d) (v0 y0 : Nat) : FM (sgU g 45 v0 (nI y0)) (updN d v0 y0) := by
  intro v_z hv
  unfold updN
  by_cases hx : v_z = v0
  · rw [if_pos hx, hx, sg_s]
  · rw [if_neg hx, sg_j hx]; exact h v_z hv
theorem NM.fr {N : Net} {g g' : Sg} (h : NM N g) (hk : ∀ k, k ≠ 45 → g' k = g k) : NM N g' := h.of (by rw [hk 34 (by decide)]) (hk 40 (by decide))
theorem OM.fr {g g' : Sg} (hk : ∀ k, k ≠ 45 → g' k = g k) : OM g' = OM g := OM.of (hk 41 (by decide)) (hk 44 (by decide))
theorem mfar_in {N : Net} {g0 : Sg} {D d0 : Nat → Nat} {rr : Nat} {Q : Sg → Prop} (hN : NM N g0) (hst : ∀ p, p < N.1 → OM g0 p = true → stb N D p) (hd0 : ∀ v, v < 8 → d0 v ≤ 10000)
    (hk : ∀ (g' : Sg) (d' : Nat → Nat), FM g' d' → (∀ k, k ≠ 45 → g' k = g0 k) → RI8 N (OM g0) D d0 d' N.1 → Hm_findFar_34 (nI (rr + 1)) g' Q) :
    ∀ (m p : Nat) (g : Sg) (d : Nat → Nat), p + m = N.1 → FM g d → (∀ k, k ≠ 45 → g k = g0 k) → RI8 N (OM g0) D d0 d p → Hm_findFar_42 (nI rr) (nI p) g Q := by
  have h16 := hN.1.1
  intro m
  induction m with
  | zero =>
    intro p g d hpm hF hfr hR
    have hpn : p = N.1 := by omega
    refine Vm_findFar_42 (brT ?_ ?_)
    · rw [(hN.fr hfr).2.1, hpn]; exact_z nI_le (Nat.le_refl _) (by omega)
    · rw [nI_1]
      exact_z hk g d hF hfr (by rw [← hpn]; exact_z hR)
  | succ m ih_z =>
    intro p g d hpm hF hfr hR
    have hpn : p < N.1 := by omega
    have hNg := hN.fr hfr
    obtain ⟨v1_z, v2, v3, -⟩ := hNg.2.2 p hpn
    obtain ⟨w1_z, w2_z, w3_z, w4_z, w5, w6_z⟩ := hN.1.2 p hpn
    obtain ⟨x1_z, x2_z, x3, -, x5_z, x6, x7, -⟩ := ix4 (show p < 16 by omega)
    have iA : vp_in (nI (nA N p)) 8 := vp_in_nI w1_z (by omega)
    have iB_z : vp_in (nI (nB_z N p)) 8 := vp_in_nI w2_z (by omega)
    have dA : d (nA N p) ≤ 10000 := Nat.le_trans (hR.1 _ w1_z) (hd0 _ w1_z)
    have dB_z : d (nB_z N p) ≤ 10000 := Nat.le_trans (hR.1 _ w2_z) (hd0 _ w2_z)
    refine Vm_findFar_42 (brF ?_ ⟨x5_z, x6, x7, vp_in_nI (by omega) (by omega), ?_⟩)
    · rw [hNg.2.1]; exact_z nI_ge hpn (by omega)
    · have hoc := om_t (g := g) (p := p) (by omega)
      rw [OM.fr hfr] at hoc
      by_cases ho : OM g0 p = true
      · refine brT (hoc.mpr ho) ?_
        have hs := hst p hpn ho
        have lA := hR.2.1 _ w1_z
        have lB := hR.2.1 _ w2_z
        have uA := hR.1 _ w1_z
        have uB := hR.1 _ w2_z
        -- the second half_z, from any far[a] that is the lesser of the two
        have half_z : ∀ (g' : Sg) (ya : Nat), FM g' (updN d (nA N p) ya) → (∀ k, k ≠ 45 → g' k = g0 k) → ya ≤ d (nA N p) → ya ≤ d (nB_z N p) + nL N p → D (nA N p) ≤ ya → Hm_findFar_139 (nI rr) (nI p) (nI (nA N p)) (nI (nB_z N p)) (nI (nL N p)) g' Q := by
          intro g' ya hF' hfr' hy1 hy2 hy3
          have eA_z : g' 45 (nA N p) = nI ya := by rw [hF' _ w1_z]; unfold updN; rw [if_pos rfl]
          have eB : g' 45 (nB_z N p) = nI (d (nB_z N p)) := by rw [hF' _ w2_z]; unfold updN; rw [if_neg (Ne.symm w3_z)]
          have fin_z : ∀ (yb : Nat), yb ≤ d (nB_z N p) → yb ≤ ya + nL N p → D (nB_z N p) ≤ yb → Hm_findFar_42 (nI rr) (nI p + 1) (sgU g' 45 (nB_z N p) (nI yb)) Q := by
            intro yb hb1 hb2 hb3
            rw [nI_1]
            refine ih_z (p + 1) _ _ (by omega) (hF'.w (nB_z N p) yb) (fun k hk45 => by funext j; rw [sg_k hk45, hfr' k hk45]) ⟨fun v hv => ?_, fun v hv => ?_, fun q_z hq hoq => ?_⟩
            · have := hR.1 v hv
              unfold updN
              split
              · rename_i hx; rw [hx]; omega
              · split
                · rename_i hx; rw [hx]; omega
                · omega
            · have := hR.2.1 v hv
              unfold updN
              split
              · rename_i hx; rw [hx]; exact_z hb3
              · split
                · rename_i hx; rw [hx]; exact_z hy3
                · omega
            · have mono_z : ∀ v, updN (updN d (nA N p) ya) (nB_z N p) yb v ≤ d v := by
                intro v
                unfold updN
                split
                · rename_i hx; rw [hx]; omega
                · split
                  · rename_i hx; rw [hx]; omega
                  · omega
              by_cases hqp : q_z = p
              · rw [hqp]
                unfold updN
                rw [if_pos rfl, if_neg w3_z, if_pos rfl]
                omega
              · obtain ⟨j1, j2_z⟩ := hR.2.2 q_z (by omega) hoq
                have := mono_z (nB_z N q_z)
                have := mono_z (nA N q_z)
                omega
          refine Vm_findFar_139 ⟨iA, iB_z, ?_⟩
          rw [nI_clamp (show nB_z N p < 2 ^ 31 by omega), nI_clamp (show nA N p < 2 ^ 31 by omega), eA_z, eB, nI_add]
          by_cases hc_z : d (nB_z N p) ≤ ya + nL N p
          · exact_z brT (nI_le hc_z (by omega)) ⟨iB_z, iB_z, fin_z _ (Nat.le_refl _) hc_z lB⟩
          · refine brF (nI_ge (by omega) (by omega)) ⟨iA, iB_z, fin_z _ (by omega) (Nat.le_refl _) ?_⟩
            have := hs.2
            omega
        rw [x1_z, x2_z, x3, v1_z, v2, v3, nI_clamp (show nB_z N p < 2 ^ 31 by omega), nI_clamp (show nA N p < 2 ^ 31 by omega), hF _ w1_z, hF _ w2_z, nI_add]
        refine ⟨iB_z, iA, ?_⟩
        by_cases hc_z : d (nA N p) ≤ d (nB_z N p) + nL N p
        · refine brT (nI_le hc_z (by omega)) ⟨iA, iA, half_z _ _ (hF.w _ _) (fun k hk45 => by funext j; rw [sg_k hk45, hfr k hk45]) (Nat.le_refl _) hc_z lA⟩
        · refine brF (nI_ge (by omega) (by omega)) ⟨iB_z, iA, half_z _ _ (hF.w _ _) (fun k hk45 => by funext j; rw [sg_k hk45, hfr k hk45]) (by omega) (Nat.le_refl _) ?_⟩
          have := hs.1
          omega
      · refine brF (fun hx => ho (hoc.mp hx)) ?_
        rw [nI_1]
        refine ih_z (p + 1) g d (by omega) hF hfr ⟨hR.1, hR.2.1, fun q_z hq hoq => ?_⟩
        by_cases hqp : q_z = p
        · rw [hqp] at hoq; exact_z absurd hoq ho
        · exact_z hR.2.2 q_z (by omega) hoq
theorem mfar_out {N : Net} {g0 : Sg} {D : Nat → Nat} {t : Nat} {Q : Sg → Prop} (hN : NM N g0) (ht : t < 8) (hD : IsD N (OM g0) t 10000 D) (hk : ∀ g', FM g' D → (∀ k, k ≠ 45 → g' k = g0 k) → Q g') :
    ∀ (m rr : Nat) (g : Sg) (d : Nat → Nat), rr + m = 8 → FM g d → (∀ k, k ≠ 45 → g k = g0 k) → d t = 0 → (∀ v, v < 8 → d v ≤ 10000) → (∀ v, v < 8 → D v ≤ d v) → (un D d = 0 ∨ un D d + rr ≤ 7) → Hm_findFar_34 (nI rr) g Q := by
  intro m
  induction m with
  | zero =>
    intro rr g d hrm hF hfr hdt hd1 hDd hu
    have hr8 : rr = 8 := by omega
    have hz : un D d = 0 := by omega
    rw [hr8]
    refine Vm_findFar_34 (brT (by decide) ?_)
    exact hk g (fun v hv => by rw [hF v hv, un_0 hz v hv]) hfr
  | succ m ih_z =>
    intro rr g d hrm hF hfr hdt hd1 hDd hu
    refine Vm_findFar_34 (brF (fun hx => ?_) ?_)
    · have := (leR (a := rr) (n := 8) (by omega) (by decide)).mp hx
      omega
    · refine mfar_in (D := D) (d0 := d) hN hD.2.2.1 hd1 (fun g' d' k1_z k2_z k3_z => ?_) N.1 0 g d (by omega) hF hfr ⟨fun _ _ => Nat.le_refl _, hDd, fun q_z hq => absurd hq (by omega)⟩
      have hle : un D d' ≤ un D d := un_le k3_z.1 k3_z.2.1
      have hdt' : d' t = 0 := by have := k3_z.1 t ht; omega
      have hd1' : ∀ v, v < 8 → d' v ≤ 10000 := fun v hv => Nat.le_trans (k3_z.1 v hv) (hd1 v hv)
      refine ih_z (rr + 1) g' d' (by omega) k1_z k2_z hdt' hd1' k3_z.2.1 ?_
      rcases round_un hN.1 hD ht hdt hd1 hDd k3_z with hz | hz
      · left; omega
      · omega
theorem mfar_init {t : Nat} {g0 : Sg} {Q : Sg → Prop} (ht : t < 8) (hk : ∀ g', FM g' (fun w => if w = t then 0 else 10000) → (∀ k, k ≠ 45 → g' k = g0 k) → Hm_findFar_34 0 g' Q) :
    ∀ (m v : Nat) (g : Sg), v + m = 8 → (∀ w, w < v → g 45 w = nI (if w = t then 0 else 10000)) → (∀ k, k ≠ 45 → g k = g0 k) → Hm_findFar_2 (nI t) (nI v) g Q := by
  intro m
  induction m with
  | zero =>
    intro v g hvm hF hfr
    have hv8 : v = 8 := by omega
    rw [hv8] at hF ⊢
    exact Vm_findFar_2 (brT (by decide) (hk g hF hfr))
  | succ m ih_z =>
    intro v g hvm hF hfr
    refine Vm_findFar_2 (brF (fun hx => ?_) ?_)
    · have := (leR (a := v) (n := 8) (by omega) (by decide)).mp hx
      omega
    · have iV : vp_in (nI v) 8 := vp_in_nI (by omega) (by omega)
      rw [nI_clamp (show v < 2 ^ 31 by omega), nI_1]
      by_cases hvt : v = t
      · refine brT (by rw [hvt]) ⟨iV, ih_z (v + 1) _ (by omega) (fun w hw => ?_) (fun k hk45 => by funext j; rw [sg_k hk45, hfr k hk45])⟩
        by_cases hwv : w = v
        · rw [hwv, sg_s, if_pos hvt]; rfl
        · rw [sg_j hwv]; exact hF w (by omega)
      · refine brF (fun hx => hvt ((nI_eq (by omega) (by omega)).mp hx)) ⟨iV, ih_z (v + 1) _ (by omega) (fun w hw => ?_) (fun k hk45 => by funext j; rw [sg_k hk45, hfr k hk45])⟩
        by_cases hwv : w = v
        · rw [hwv, sg_s, if_neg hvt]; rfl
        · rw [sg_j hwv]; exact hF w (by omega)
theorem Sm_findFar {N : Net} {g : Sg} {D : Nat → Nat} {t : Nat} {Q : Sg → Prop} (hN : NM N g) (ht : t < 8) (hD : IsD N (OM g) t 10000 D) (hk : ∀ g', FM g' D → (∀ k, k ≠ 45 → g' k = g k) → Q g') : Cm_findFar (nI t) g Q := by
  refine Vm_findFar (mfar_init ht (fun g' hF hfr => ?_) 8 0 g (by omega) (fun w_z hw => absurd hw (by omega)) (fun _ _ => rfl))
  have hb_z : ∀ v_z, v_z < 8 → D v_z ≤ (fun w_z => if w_z = t then 0 else 10000) v := fun v_z hv => by
    try dsimp only
    split
    · rename_i hx; rw [hx, hD.1]; omega
    · exact hD.2.1 v_z hv
  exact mfar_out hN ht hD hk 8 0 g' _ (by omega) hF hfr (by simp) (fun v_z _ => by (try dsimp only); split <;> omega) hb_z (Or.inr (un_7 ht (by simp [hD.1])))
