/-! the reference: findWay -/
theorem mOth_t {N : Net} {g : Sg} (hN : NM N g) {p e : Nat} (hp : p < N.1) (he : e < 8) (ht : tch N p e) : mOth g (nI p) (nI e) = nI (opp N p e) := by
  obtain ⟨v1, v2, -⟩ := hN.2.2 p hp
  obtain ⟨w1, w2, w3, -⟩ := hN.1.2 p hp
  have h16 := hN.1.1
  obtain ⟨x1, x2, -⟩ := ix4 (show p < 16 by omega)
  unfold mOth opp
  rw [x1, x2, v1, v2]
  by_cases hx : nA N p = e
  · rw [if_pos (by rw [hx]), if_pos hx]
  · rw [if_neg (fun hy => hx ((nI_eq (by omega) (by omega)).mp hy)), if_neg hx]
    rcases ht with hz | hz
    · exact absurd hz hx
    · rw [if_pos (by rw [hz])]
theorem mOth_f {N : Net} {g : Sg} (hN : NM N g) {p e : Nat} (hp : p < N.1) (he : e < 8) (ht : ¬ tch N p e) : mOth g (nI p) (nI e) = -1 := by
  obtain ⟨v1, v2, -⟩ := hN.2.2 p hp
  obtain ⟨w1, w2, w3, -⟩ := hN.1.2 p hp
  have h16 := hN.1.1
  obtain ⟨x1, x2, -⟩ := ix4 (show p < 16 by omega)
  unfold mOth
  rw [x1, x2, v1, v2, if_neg (fun hy => ht (Or.inl ((nI_eq (by omega) (by omega)).mp hy))), if_neg (fun hy => ht (Or.inr ((nI_eq (by omega) (by omega)).mp hy)))]
theorem sub1 (x : Int32) : x + (-1) = x - 1 := (Int32.sub_eq_add_neg x 1).symm
def WayAt (g : Sg) (l : List Nat) : Prop := ∀ j, j < l.length → g 46 j = nI (l.getD j 0)
theorem mw_in {N : Net} {g : Sg} {D : Nat → Nat} {t e i p0 : Nat} {Q : Int32 → Sg → Prop} (hN : NM N g) (he : e < 8) (hi : i < 16) (hF : FM g D) (hDb : ∀ v, v < 8 → D v ≤ 10000) (hp0 : p0 < N.1) (ho0 : onw N (OM g) D e p0) (hno : ∀ q, q < p0 → ¬ onw N (OM g) D e q)
    (hk : Hm_findWay_24 (nI t) (nI i + 1) (nI (opp N p0 e)) (sgU g 46 i (nI p0)) Q) :
    ∀ (m : Nat) (best : Int32), m ≤ N.1 → ((best = -1 ∧ p0 < m) ∨ ∃ b0, best = nI b0 ∧ b0 < N.1 ∧ onw N (OM g) D e b0 ∧ m ≤ b0 ∧ ∀ q, m ≤ q → q < b0 → ¬ onw N (OM g) D e q) → Hm_findWay_41 (nI t) (nI i) (nI e) best (nI m - 1) g Q := by
  have h16 := hN.1.1
  intro m
  induction m with
  | zero =>
    intro best hm hb
    have hbest : best = nI p0 := by
      rcases hb with ⟨-, hx⟩ | ⟨b0, y1, y2, y3, -, y5⟩
      · omega
      · have : b0 = p0 := by
          rcases Nat.lt_trichotomy b0 p0 with hz | hz | hz
          · exact absurd y3 (hno b0 hz)
          · exact hz
          · exact absurd ho0 (y5 p0 (by omega) hz)
        rw [y1, this]
    obtain ⟨x1, x2, -, -, x5, x6, -⟩ := ix4 (show p0 < 16 by omega)
    rw [hbest]
    refine Vm_findWay_41 (brT (by decide) ⟨vp_in_nI (by omega) (by omega), x5, x6, ?_⟩)
    rw [mOth_t hN hp0 he ho0.2.1, nI_clamp (show i < 2 ^ 31 by omega)]
    exact hk
  | succ m ih =>
    intro best hm hb
    rw [nI_pred]
    obtain ⟨x1, x2, x3, -, x5, x6, x7, -⟩ := ix4 (show m < 16 by omega)
    obtain ⟨v1, v2, v3, -⟩ := hN.2.2 m (by omega)
    obtain ⟨w1, w2, w3, w4, w5, -⟩ := hN.1.2 m (by omega)
    have skip : (¬ onw N (OM g) D e m) → Hm_findWay_41 (nI t) (nI i) (nI e) best (nI m - 1) g Q := by
      intro hnm
      refine ih best (by omega) ?_
      rcases hb with ⟨y1, y2⟩ | ⟨b0, y1, y2, y3, y4, y5⟩
      · left
        refine ⟨y1, ?_⟩
        rcases Nat.lt_or_ge p0 m with hz | hz
        · exact hz
        · have : p0 = m := by omega
          rw [this] at ho0
          exact absurd ho0 hnm
      · right
        refine ⟨b0, y1, y2, y3, by omega, fun q hq1 hq2 => ?_⟩
        by_cases hqm : q = m
        · rw [hqm]; exact hnm
        · exact y5 q (by omega) hq2
    refine Vm_findWay_41 (brF (nI_pos (by omega)) ⟨x5, x6, ?_⟩)
    rw [sub1]
    by_cases htc : tch N m e
    · have hol := opp_lt hN.1 e (show m < N.1 by omega)
      rw [mOth_t hN (by omega) he htc]
      refine brF (nI_m1 (by omega)) ⟨vp_in_nI (by omega) (by omega), ?_⟩
      have hoc := om_t (g := g) (p := m) (by omega)
      by_cases ho : OM g m = true
      · refine brT (hoc.mpr ho) ⟨vp_in_nI hol (by omega), x7, vp_in_nI he (by omega), ?_⟩
        rw [x3, v3, nI_clamp (show opp N m e < 2 ^ 31 by omega), nI_clamp (show e < 2 ^ 31 by omega), hF _ hol, hF _ he, nI_add]
        have b1 := hDb _ hol
        have b2 := hDb _ he
        by_cases heq : D (opp N m e) + nL N m = D e
        · refine brT (by rw [heq]) (ih (nI m) (by omega) (Or.inr ⟨m, rfl, by omega, ⟨ho, htc, heq⟩, Nat.le_refl _, fun q hq1 hq2 => absurd hq2 (by omega)⟩))
        · exact brF (fun hx => heq ((nI_eq (by omega) (by omega)).mp hx)) (skip (fun hx => heq hx.2.2))
      · exact brF (fun hx => ho (hoc.mp hx)) (skip (fun hx => ho hx.1))
    · rw [mOth_f hN (by omega) he htc]
      exact brT rfl (skip (fun hx => htc hx.2.1))
theorem mw_out {N : Net} {g1 : Sg} {D : Nat → Nat} {t : Nat} {Q : Int32 → Sg → Prop} (hN : NM N g1) (ht : t < 8) (hD : IsD N (OM g1) t 10000 D) (hF1 : FM g1 D)
    {fin : List Nat} (hk : ∀ g', (∀ k, k ≠ 46 → g' k = g1 k) → WayAt g' fin → Q (nI fin.length) g') :
    ∀ (n e : Nat) (pre : List Nat) (g : Sg), rk D e ≤ n → pre.length + rk D e ≤ 7 → e < 8 → D e < 10000 → (∀ k, k ≠ 46 → g k = g1 k) → WayAt g pre → pre ++ wrow N (OM g1) D t 8 e = fin → Hm_findWay_24 (nI t) (nI pre.length) (nI e) g Q := by
  intro n
  induction n with
  | zero =>
    intro e pre g hrk hle he hDe hfr hrow hfin
    have het : e = t := Classical.byContradiction (fun hx => by
      obtain ⟨p, -, -, -, -, -, -, hz⟩ := onw_ex hN.1 hD he hDe hx
      omega)
    rw [het, wrow_t, List.append_nil] at hfin
    rw [hfin] at hrow ⊢
    exact Vm_findWay_24 (brT (by rw [het]) (hk g hfr hrow))
  | succ n ih =>
    intro e pre g hrk hle he hDe hfr hrow hfin
    by_cases het : e = t
    · rw [het, wrow_t, List.append_nil] at hfin
      rw [hfin] at hrow ⊢
      exact Vm_findWay_24 (brT (by rw [het]) (hk g hfr hrow))
    · refine Vm_findWay_24 (brF (fun hx => het ((nI_eq (by omega) (by omega)).mp hx)) ?_)
      have hNg : NM N g := hN.of (by rw [hfr 34 (by decide)]) (hfr 40 (by decide))
      have hOg : OM g = OM g1 := OM.of (hfr 41 (by decide)) (hfr 44 (by decide))
      have hFg : FM g D := fun v hv => by rw [hfr 45 (by decide)]; exact hF1 v hv
      obtain ⟨p0, y1, y2, y3, y4, y5, y6, y7⟩ := onw_ex hN.1 hD he hDe het
      rw [hNg.2.1]
      refine mw_in hNg he (by omega) hFg hD.2.1 y1 (by rw [hOg]; exact y2) (by rw [hOg]; exact y3) ?_ N.1 (-1) (Nat.le_refl _) (Or.inl ⟨rfl, y1⟩)
      rw [nI_1]
      have hlen : (pre ++ [p0]).length = pre.length + 1 := by simp
      rw [← hlen]
      refine ih (opp N p0 e) (pre ++ [p0]) _ (by omega) (by rw [hlen]; omega) y5 (by omega) (fun k hk46 => ?_) (fun j hj => ?_) ?_
      · funext j; rw [sg_k hk46, hfr k hk46]
      · by_cases hjl : j = pre.length
        · rw [hjl, sg_s]; simp
        · rw [sg_j hjl, hrow j (by omega)]
          simp [List.getD_eq_getElem?_getD, List.getElem?_append_left (show j < pre.length by omega)]
      · rw [wrow_cons hN.1 hD he hDe het y4] at hfin
        rw [← hfin]; simp
theorem Sm_findWay {N : Net} {g : Sg} {va vb : Nat} {Q : Int32 → Sg → Prop} (hN : NM N g) (ha : va < 8) (hb : vb < 8) (hab : va ≠ vb)
    (hk : ∀ g', (∀ k, k ≠ 45 → k ≠ 46 → g' k = g k) → WayAt g' (way N (OM g) va vb) → ((way N (OM g) va vb = [] → Q (-1) g') ∧ (way N (OM g) va vb ≠ [] → g' 45 va = nI (dst N (OM g) vb va) → Q (nI (way N (OM g) va vb).length) g'))) : Cm_findWay (nI va) (nI vb) g Q := by
  obtain ⟨D, hD⟩ := IsD.ex hN.1 (OM g) (t := vb) (F := 10000) hb (by omega)
  refine Vm_findWay (Sm_findFar hN hb hD (fun g1 hF1 hfr1 => ⟨vp_in_nI ha (by omega), ?_⟩))
  have hN1 : NM N g1 := hN.fr hfr1
  have hO1 : OM g1 = OM g := OM.fr hfr1
  have hway := way_of hN.1 ha hb hD (by omega)
  have hds := dst_is hN.1 (OM g) hb
  obtain ⟨z1, z2⟩ := hds.eq hN.1 hD (by omega) (by omega) ha
  have hub := hD.2.1 va ha
  rw [nI_clamp (show va < 2 ^ 31 by omega), hF1 va ha]
  by_cases hl : D va < 10000
  · rw [if_pos hl] at hway
    have hl2 : dst N (OM g) vb va < 1000 := z1.mpr hl
    have hne := ((way_ok hN.1 (OM g) ha hb).2.2.2.1 hl2).2 hab
    refine brT ((nI_ltI (a := D va) (b := 10000) (by omega) (by omega)).mpr hl) ?_
    have hr7 := rk_7 (d := D) ha
    refine mw_out (fin := way N (OM g) va vb) hN1 hb (by rw [hO1]; exact hD) hF1 (fun g' hfr hrow => ?_) 7 va [] g1 hr7 (by simp; omega) ha hl (fun _ _ => rfl) (fun j hj => absurd hj (by simp)) (by rw [hO1, hway]; rfl)
    refine (hk g' (fun k h45 h46 => (hfr k h46).trans (hfr1 k h45)) hrow).2 hne ?_
    rw [hfr 45 (by decide), hF1 va ha, z2 hl2]
  · rw [if_neg hl] at hway
    refine brF (fun hx => hl ((nI_ltI (a := D va) (b := 10000) (by omega) (by omega)).mp hx)) ?_
    exact (hk g1 (fun k h45 _ => hfr1 k h45) (by rw [hway]; intro j hj; exact absurd hj (by simp))).1 hway
