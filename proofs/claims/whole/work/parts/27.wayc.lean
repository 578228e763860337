/-! the class: measure, leastOnward, find -/
def NC (N : Net) (g : Sg) : Prop := netOK N ∧ g 1 8 = nI N.1 ∧ ∀ p, p < N.1 → g 3 p = nI (nA N p) ∧ g 4 p = nI (nB N p) ∧ g 5 p = nI (nL N p) ∧ g 6 p = nI (nD N p)
def OC (g : Sg) (p : Nat) : Bool := !bt (g 1 9) p && decide (g 8 p < g 1 10)
theorem NC.of {N : Net} {g g' : Sg} (h : NC N g) (h1 : g' 1 = g 1) (h3 : g' 3 = g 3) (h4 : g' 4 = g 4) (h5 : g' 5 = g 5) (h6 : g' 6 = g 6) : NC N g' := by
  unfold NC
  rw [h1, h3, h4, h5, h6]
  exact h
theorem OC.of {g g' : Sg} (h1 : g' 1 = g 1) (h8 : g' 8 = g 8) : OC g' = OC g := by
  funext p
  unfold OC
  rw [h1, h8]
theorem oc_t {g : Sg} {p : Nat} (hp : p < 16) : (tbb (g 1 9) (nI p) = false ∧ g 8 (nI p).toNatClampNeg < g 1 10) ↔ OC g p = true := by
  rw [tbb_n _ (by omega), nI_clamp (by omega)]
  simp [OC]
theorem Sw_shorten {N : Net} {g : Sg} {p : Nat} {d : Nat → Nat} {Q : Int32 → Sg → Prop} (hN : NC N g) (hp : p < N.1) (hF : ∀ v, v < 8 → g 9 v = nI (d v)) (hd : ∀ v, v < 8 → d v ≤ 1000)
    (h : ∀ (r : Int32) (g' : Sg) (d' : Nat → Nat), (∀ v, v < 8 → g' 9 v = nI (d' v)) → (∀ k, k ≠ 9 → g' k = g k) → (r = 0 → d' = d) → (∀ v, d' v ≤ d v) → (∀ D : Nat → Nat, stb N D p → (∀ v, v < 8 → D v ≤ d v) → ∀ v, v < 8 → D v ≤ d' v) → d' (nB N p) ≤ d (nA N p) + nL N p → d' (nA N p) ≤ d (nB N p) + nL N p → Q r g') : Cw_shorten (nI p) g Q := by
  obtain ⟨hok, hn, hr⟩ := hN
  obtain ⟨w1, w2, w3, w4, w5, w6⟩ := hok.2 p hp
  obtain ⟨v1, v2, v3, -⟩ := hr p hp
  have hp16 : p < 16 := by have := hok.1; omega
  have i16 : vp_in (nI p) 16 := vp_in_nI hp16 (by omega)
  have iA : vp_in (nI (nA N p)) 8 := vp_in_nI w1 (by omega)
  have iB : vp_in (nI (nB N p)) 8 := vp_in_nI w2 (by omega)
  have dA := hd _ w1
  have dB := hd _ w2
  refine Vw_shorten ?_
  rw [nI_clamp (show p < 2 ^ 31 by omega), v1, v2, v3, nI_clamp (show nA N p < 2 ^ 31 by omega), nI_clamp (show nB N p < 2 ^ 31 by omega), hF _ w1, hF _ w2, nI_add, nI_add]
  refine ⟨i16, i16, i16, iA, iB, ?_⟩
  by_cases hc1 : d (nB N p) ≤ d (nA N p) + nL N p
  · refine brT (nI_le hc1 (by omega)) ⟨iB, iA, ?_⟩
    by_cases hc2 : d (nA N p) ≤ d (nB N p) + nL N p
    · refine brT (nI_le hc2 (by omega)) ?_
      exact h 0 g d hF (fun _ _ => rfl) (fun _ => rfl) (fun _ => Nat.le_refl _) (fun D _ hD => hD) hc1 hc2
    · refine brF (nI_ge (by omega) (by omega)) ⟨iB, iA, ?_⟩
      refine h 1 _ (updN d (nA N p) (d (nB N p) + nL N p)) (fun v hv => ?_) (fun k hk => ?_) (fun q => absurd q (by decide)) (fun v => ?_) (fun D hs hD v hv => ?_) ?_ ?_
      · unfold updN
        by_cases hv2 : v = nA N p
        · rw [if_pos hv2, hv2, sg_s]
        · rw [if_neg hv2, sg_j hv2]; exact hF v hv
      · funext j; rw [sg_k hk]
      · unfold updN
        split
        · rename_i hv2; rw [hv2]; omega
        · omega
      · unfold updN
        split
        · rename_i hv2; rw [hv2]; have := hs.1; have := hD _ w2; omega
        · exact hD v hv
      · unfold updN; rw [if_neg (Ne.symm w3)]; omega
      · unfold updN; rw [if_pos rfl]; omega
  · refine brF (nI_ge (by omega) (by omega)) ⟨iA, iB, ?_⟩
    refine h 1 _ (updN d (nB N p) (d (nA N p) + nL N p)) (fun v hv => ?_) (fun k hk => ?_) (fun q => absurd q (by decide)) (fun v => ?_) (fun D hs hD v hv => ?_) ?_ ?_
    · unfold updN
      by_cases hv2 : v = nB N p
      · rw [if_pos hv2, hv2, sg_s]
      · rw [if_neg hv2, sg_j hv2]; exact hF v hv
    · funext j; rw [sg_k hk]
    · unfold updN
      split
      · rename_i hv2; rw [hv2]; omega
      · omega
    · unfold updN
      split
      · rename_i hv2; rw [hv2]; have := hs.2; have := hD _ w1; omega
      · exact hD v hv
    · unfold updN; rw [if_pos rfl]; omega
    · unfold updN; rw [if_neg w3]; omega
theorem NC.fr {N : Net} {g g' : Sg} (h : NC N g) (hk : ∀ k, k ≠ 9 → g' k = g k) : NC N g' := h.of (hk 1 (by decide)) (hk 3 (by decide)) (hk 4 (by decide)) (hk 5 (by decide)) (hk 6 (by decide))
theorem OC.fr {g g' : Sg} (hk : ∀ k, k ≠ 9 → g' k = g k) : OC g' = OC g := OC.of (hk 1 (by decide)) (hk 8 (by decide))
/-- one round -/
theorem meas_in {N : Net} {g0 : Sg} {D d0 : Nat → Nat} {rr : Nat} {Q : Sg → Prop} (hN : NC N g0) (hst : ∀ p, p < N.1 → OC g0 p = true → stb N D p) (hd0 : ∀ v, v < 8 → d0 v ≤ 1000)
    (hk : ∀ (ch : Int32) (g' : Sg) (d' : Nat → Nat), (∀ v, v < 8 → g' 9 v = nI (d' v)) → (∀ k, k ≠ 9 → g' k = g0 k) → RI8 N (OC g0) D d0 d' N.1 → (ch = 0 → d' = d0) → Hw_measure_21 ch (nI (rr + 1)) g' Q) :
    ∀ (m p : Nat) (ch : Int32) (g : Sg) (d : Nat → Nat), p + m = N.1 → (∀ v, v < 8 → g 9 v = nI (d v)) → (∀ k, k ≠ 9 → g k = g0 k) → RI8 N (OC g0) D d0 d p → (ch = 0 → d = d0) → Hw_measure_36 ch (nI rr) (nI p) g Q := by
  have h16 := hN.1.1
  intro m
  induction m with
  | zero =>
    intro p ch g d hpm hF hfr hR hch
    have hpn : p = N.1 := by omega
    refine Vw_measure_36 (brT ?_ ?_)
    · rw [(hN.fr hfr).2.1, hpn]; exact nI_le (Nat.le_refl _) (by omega)
    · rw [nI_1]
      exact hk ch g d hF hfr (by rw [← hpn]; exact hR) hch
  | succ m ih =>
    intro p ch g d hpm hF hfr hR hch
    have hpn : p < N.1 := by omega
    have hNg := hN.fr hfr
    refine Vw_measure_36 (brF ?_ ⟨vp_in_nI (by omega) (by omega), ?_⟩)
    · rw [hNg.2.1]; exact nI_ge hpn (by omega)
    · have hoc := oc_t (g := g) (p := p) (by omega)
      rw [OC.fr hfr] at hoc
      by_cases ho : OC g0 p = true
      · refine brT (hoc.mpr ho) ?_
        refine Sw_shorten hNg hpn hF (fun v hv => Nat.le_trans (hR.1 v hv) (hd0 v hv)) (fun r g' d' k1 k2 k3 k4 k5 k6 k7 => ?_)
        obtain ⟨e1, e2, e3, e4, e5⟩ := hN.1.2 p hpn
        have hR' : RI8 N (OC g0) D d0 d' (p + 1) := by
          refine ⟨fun v hv => Nat.le_trans (k4 v) (hR.1 v hv), k5 D (hst p hpn ho) hR.2.1, fun q hq hoq => ?_⟩
          by_cases hqp : q = p
          · rw [hqp]
            have := hR.1 _ e1
            have := hR.1 _ e2
            omega
          · obtain ⟨j1, j2⟩ := hR.2.2 q (by omega) hoq
            have := k4 (nB N q)
            have := k4 (nA N q)
            omega
        have hfr' : ∀ k, k ≠ 9 → g' k = g0 k := fun k hk9 => (k2 k hk9).trans (hfr k hk9)
        refine ⟨fun hr0 => ?_, fun hr1 => ?_⟩
        · rw [nI_1]
          exact ih (p + 1) ch g' d' (by omega) k1 hfr' hR' (fun hc => (k3 hr0).trans (hch hc))
        · rw [nI_1]
          exact ih (p + 1) 1 g' d' (by omega) k1 hfr' hR' (fun hc => absurd hc (by decide))
      · refine brF (fun hx => ho (hoc.mp hx)) ?_
        rw [nI_1]
        refine ih (p + 1) ch g d (by omega) hF hfr ⟨hR.1, hR.2.1, fun q hq hoq => ?_⟩ hch
        by_cases hqp : q = p
        · rw [hqp] at hoq; exact absurd hoq ho
        · exact hR.2.2 q (by omega) hoq
theorem un_z {D d : Nat → Nat} (h : ∀ v, v < 8 → d v = D v) : un D d = 0 := by
  obtain ⟨e0, e1, e2, e3, e4, e5, e6, e7⟩ := lt8 h
  simp [un, s8, e0, e1, e2, e3, e4, e5, e6, e7]
theorem meas_out {N : Net} {g0 : Sg} {D : Nat → Nat} {t : Nat} {Q : Sg → Prop} (hN : NC N g0) (ht : t < 8) (hD : IsD N (OC g0) t 1000 D) (hk : ∀ g', (∀ v, v < 8 → g' 9 v = nI (D v)) → (∀ k, k ≠ 9 → g' k = g0 k) → Q g') :
    ∀ (m rr : Nat) (ch : Int32) (g : Sg) (d : Nat → Nat), rr + m = 8 → (∀ v, v < 8 → g 9 v = nI (d v)) → (∀ k, k ≠ 9 → g k = g0 k) → d t = 0 → (∀ v, v < 8 → d v ≤ 1000) → (∀ v, v < 8 → D v ≤ d v) → (un D d = 0 ∨ un D d + rr ≤ 7) → (ch = 0 → un D d = 0) → Hw_measure_21 ch (nI rr) g Q := by
  intro m
  induction m with
  | zero =>
    intro rr ch g d hrm hF hfr hdt hd1 hDd hu hch
    have hr8 : rr = 8 := by omega
    have hz : un D d = 0 := by omega
    rw [hr8]
    refine Vw_measure_21 (brT (by decide) ?_)
    exact hk g (fun v hv => by rw [hF v hv, un_0 hz v hv]) hfr
  | succ m ih =>
    intro rr ch g d hrm hF hfr hdt hd1 hDd hu hch
    refine Vw_measure_21 (brF (fun hx => ?_) ?_)
    · have := (nI_leI (a := 8) (b := rr) (by omega) (by omega)).mp hx
      omega
    · by_cases hc : ch = 0
      · refine brT hc ?_
        exact hk g (fun v hv => by rw [hF v hv, un_0 (hch hc) v hv]) hfr
      · refine brF hc ?_
        refine meas_in (D := D) (d0 := d) hN hD.2.2.1 hd1 (fun ch' g' d' k1 k2 k3 k4 => ?_) N.1 0 0 g d (by omega) hF hfr ⟨fun _ _ => Nat.le_refl _, hDd, fun q hq => absurd hq (by omega)⟩ (fun _ => rfl)
        have hle : un D d' ≤ un D d := un_le k3.1 k3.2.1
        have hdt' : d' t = 0 := by have := k3.1 t ht; omega
        have hd1' : ∀ v, v < 8 → d' v ≤ 1000 := fun v hv => Nat.le_trans (k3.1 v hv) (hd1 v hv)
        refine ih (rr + 1) ch' g' d' (by omega) k1 k2 hdt' hd1' k3.2.1 ?_ (fun hc' => ?_)
        · rcases round_un hN.1 hD ht hdt hd1 hDd k3 with hz | hz
          · left; omega
          · omega
        · have hdd := k4 hc'
          rw [hdd] at k3 ⊢
          refine un_z (still_eq hN.1 hD hdt hd1 hDd (fun p hp ho => ?_))
          obtain ⟨j1, j2⟩ := k3.2.2 p hp ho
          exact ⟨j2, j1⟩
theorem Sw_measure {N : Net} {g : Sg} {D : Nat → Nat} {t : Nat} {Q : Sg → Prop} (hN : NC N g) (ht : t < 8) (hD : IsD N (OC g) t 1000 D) (hk : ∀ g', (∀ v, v < 8 → g' 9 v = nI (D v)) → (∀ k, k ≠ 9 → g' k = g k) → Q g') : Cw_measure (nI t) g Q := by
  refine Vw_measure (Sk_fill (n := 8) rfl (by omega) ⟨vp_in_nI ht (by omega), ?_⟩)
  rw [nI_clamp (show t < 2 ^ 31 by omega)]
  have hb : ∀ v, v < 8 → D v ≤ (fun w => if w = t then 0 else 1000) v := fun v hv => by
    try dsimp only
    split
    · rename_i hx; rw [hx, hD.1]; omega
    · exact hD.2.1 v hv
  refine meas_out hN ht hD hk 8 0 1 _ (fun w => if w = t then 0 else 1000) (by omega) (fun v hv => ?_) (fun k hk9 => ?_) (by simp) (fun v _ => by (try dsimp only); split <;> omega) hb (Or.inr ?_) (fun hc => absurd hc (by decide))
  · by_cases hv2 : v = t
    · rw [hv2, sg_s]; simp; rfl
    · rw [sg_j hv2]
      simp [sgF, sgC, hv, hv2]
      rfl
  · funext j
    rw [sg_k hk9]
    simp [sgF, sgC, hk9]
  · have := un_7 (D := D) (d := fun w => if w = t then 0 else 1000) ht (by simp [hD.1])
    omega
