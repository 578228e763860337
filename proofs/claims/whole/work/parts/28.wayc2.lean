/-! the class: leastOnward, find -/
theorem if_nI {m1 m2 m3 m4 : Nat} (h1 : m1 < 2 ^ 31) (h2 : m2 < 2 ^ 31) : (if nI m1 = nI m2 then nI m3 else nI m4) = nI (if m1 = m2 then m3 else m4) := by
  by_cases hx : m1 = m2
  · rw [if_pos hx, if_pos (by rw [hx])]
  · rw [if_neg hx, if_neg (fun hy => hx ((nI_eq h1 h2).mp hy))]
theorem lo_loop {N : Net} {g : Sg} {d : Nat → Nat} {e : Nat} {Q : Int32 → Sg → Prop} (hN : NC N g) (he : e < 8) (hF : ∀ v, v < 8 → g 9 v = nI (d v)) (hd : ∀ v, v < 8 → d v ≤ 1000)
    (hk1 : ∀ p, p < N.1 → onw N (OC g) d e p → (∀ q, q < p → ¬ onw N (OC g) d e q) → Q (nI p) g) (hk2 : (∀ p, p < N.1 → ¬ onw N (OC g) d e p) → Q (-1) g) :
    ∀ m p : Nat, p + m = N.1 → (∀ q, q < p → ¬ onw N (OC g) d e q) → Hw_leastOnward_16 (nI e) (nI p) g Q := by
  have h16 := hN.1.1
  intro m
  induction m with
  | zero =>
    intro p hpm hno
    have hpn : p = N.1 := by omega
    refine Vw_leastOnward_16 (brT ?_ (hk2 (by rw [← hpn]; exact hno)))
    rw [hN.2.1, hpn]; exact nI_le (Nat.le_refl _) (by omega)
  | succ m ih =>
    intro p hpm hno
    have hpn : p < N.1 := by omega
    obtain ⟨v1, v2, v3, -⟩ := hN.2.2 p hpn
    obtain ⟨w1, w2, w3, w4, w5, w6⟩ := hN.1.2 p hpn
    have i16 : vp_in (nI p) 16 := vp_in_nI (by omega) (by omega)
    have hnext : (¬ onw N (OC g) d e p) → Hw_leastOnward_16 (nI e) (nI p + 1) g Q := by
      intro hnp
      rw [nI_1]
      refine ih (p + 1) (by omega) (fun q hq => ?_)
      by_cases hqp : q = p
      · rw [hqp]; exact hnp
      · exact hno q (by omega)
    refine Vw_leastOnward_16 (brF ?_ ⟨i16, ?_⟩)
    · rw [hN.2.1]; exact nI_ge hpn (by omega)
    · have hoc := oc_t (g := g) (p := p) (by omega)
      by_cases ho : OC g p = true
      · refine brT (hoc.mpr ho) ⟨i16, ?_⟩
        rw [nI_clamp (show p < 2 ^ 31 by omega), v1, v2, v3, if_nI (by omega) (by omega)]
        by_cases htc : tch N p e
        · refine brT (htc.elim (fun hx => Or.inl (by rw [hx])) (fun hx => Or.inr (by rw [hx]))) ?_
          have hol := opp_lt hN.1 e hpn
          rw [show (if nA N p = e then nB N p else nA N p) = opp N p e from rfl]
          refine ⟨i16, vp_in_nI hol (by omega), i16, vp_in_nI he (by omega), ?_⟩
          rw [nI_clamp (show opp N p e < 2 ^ 31 by omega), nI_clamp (show e < 2 ^ 31 by omega), hF _ hol, hF _ he, nI_add]
          have b1 := hd _ hol
          have b2 := hd _ he
          by_cases heq : d (opp N p e) + nL N p = d e
          · exact brT (by rw [heq]) (hk1 p hpn ⟨ho, htc, heq⟩ hno)
          · exact brF (fun hx => heq ((nI_eq (by omega) (by omega)).mp hx)) (hnext (fun hx => heq hx.2.2))
        · refine brF (fun hx => htc (hx.elim (fun hy => Or.inl ((nI_eq (by omega) (by omega)).mp hy)) (fun hy => Or.inr ((nI_eq (by omega) (by omega)).mp hy)))) (hnext (fun hx => htc hx.2.1))
      · exact brF (fun hx => ho (hoc.mp hx)) (hnext (fun hx => ho hx.1))
def RowAt (g : Sg) (l : List Nat) : Prop := g 7 4 = nI l.length ∧ ∀ j, j < l.length → g 10 j = nI (l.getD j 0)
theorem find_loop {N : Net} {g1 : Sg} {D : Nat → Nat} {t : Nat} {Q : Int32 → Sg → Prop} (hN : NC N g1) (ht : t < 8) (hD : IsD N (OC g1) t 1000 D) (hF1 : ∀ v, v < 8 → g1 9 v = nI (D v))
    {fin : List Nat} (hk : ∀ g', (∀ k, k ≠ 7 → k ≠ 10 → g' k = g1 k) → RowAt g' fin → Q 1 g') :
    ∀ (n e : Nat) (pre : List Nat) (g : Sg), rk D e ≤ n → pre.length + rk D e ≤ 7 → e < 8 → D e < 1000 → (∀ k, k ≠ 7 → k ≠ 10 → g k = g1 k) → RowAt g pre → pre ++ wrow N (OC g1) D t 8 e = fin → Hw_find_15 (nI t) (nI e) (nI pre.length) g Q := by
  intro n
  induction n with
  | zero =>
    intro e pre g hrk hle he hDe hfr hrow hfin
    have het : e = t := Classical.byContradiction (fun hx => by
      obtain ⟨p, -, -, -, -, -, -, hz⟩ := onw_ex hN.1 hD he hDe hx
      omega)
    rw [het, wrow_t, List.append_nil] at hfin
    rw [hfin] at hrow hle ⊢
    have hq := hk g hfr hrow
    refine Vw_find_15 (brF (fun hx => ?_) (brT (by rw [het]) (brT (by rw [het]) hq)))
    have := (nI_leI (a := 8) (b := fin.length) (by omega) (by omega)).mp hx
    omega
  | succ n ih =>
    intro e pre g hrk hle he hDe hfr hrow hfin
    refine Vw_find_15 (brF (fun hx => ?_) ?_)
    · have := (nI_leI (a := 8) (b := pre.length) (by omega) (by omega)).mp hx
      omega
    · by_cases het : e = t
      · rw [het, wrow_t, List.append_nil] at hfin
        rw [hfin] at hrow
        exact brT (by rw [het]) (brT (by rw [het]) (hk g hfr hrow))
      · refine brF (fun hx => het ((nI_eq (by omega) (by omega)).mp hx)) ?_
        have hNg : NC N g := hN.of (hfr 1 (by decide) (by decide)) (hfr 3 (by decide) (by decide)) (hfr 4 (by decide) (by decide)) (hfr 5 (by decide) (by decide)) (hfr 6 (by decide) (by decide))
        have hOg : OC g = OC g1 := OC.of (hfr 1 (by decide) (by decide)) (hfr 8 (by decide) (by decide))
        have hFg : ∀ v, v < 8 → g 9 v = nI (D v) := fun v hv => by rw [hfr 9 (by decide) (by decide)]; exact hF1 v hv
        obtain ⟨p0, y1, y2, y3, y4, y5, y6, y7⟩ := onw_ex hN.1 hD he hDe het
        refine Vw_leastOnward ⟨vp_in_nI he (by omega), brT ?_ ?_⟩
        · rw [nI_clamp (show e < 2 ^ 31 by omega), hFg e he]
          exact (nI_ltI (a := D e) (b := 1000) (by omega) (by omega)).mpr hDe
        · refine lo_loop hNg he hFg (fun v hv => hD.2.1 v hv) (fun p hp ho hno => ?_) (fun hno => ?_) N.1 0 (by omega) (fun q hq => absurd hq (by omega))
          · rw [hOg] at ho hno
            have hpp : p = p0 := by
              have := nxt_some hp ho hno
              rw [y4] at this
              exact (Option.some.inj this).symm
            rw [hpp]
            have h16 := hN.1.1
            obtain ⟨v1, v2, -, -⟩ := hNg.2.2 p0 y1
            obtain ⟨w1, w2, -⟩ := hN.1.2 p0 y1
            refine brF (nI_m1 (by omega)) ⟨vp_in_nI (by omega) (by omega), vp_in_nI (by omega) (by omega), ?_⟩
            rw [nI_clamp (show p0 < 2 ^ 31 by omega), v1, v2, if_nI (by omega) (by omega), nI_clamp (show pre.length < 2 ^ 31 by omega), nI_1]
            rw [show (if nA N p0 = e then nB N p0 else nA N p0) = opp N p0 e from rfl]
            have hlen : (pre ++ [p0]).length = pre.length + 1 := by simp
            rw [← hlen]
            refine ih (opp N p0 e) (pre ++ [p0]) _ (by omega) (by rw [hlen]; omega) y5 (by omega) (fun k hk7 hk10 => ?_) ⟨?_, fun j hj => ?_⟩ ?_
            · funext j; rw [sg_k hk7, sg_k hk10, hfr k hk7 hk10]
            · rw [sg_s]
            · rw [sg_k (by decide)]
              by_cases hjl : j = pre.length
              · rw [hjl, sg_s]; simp
              · rw [sg_j hjl, hrow.2 j (by omega)]
                simp [List.getD_eq_getElem?_getD, List.getElem?_append_left (show j < pre.length by omega)]
            · rw [wrow_cons hN.1 hD he hDe het y4] at hfin
              rw [← hfin]; simp
          · rw [hOg] at hno
            exact absurd y2 (hno p0 y1)
theorem Sw_find {N : Net} {g : Sg} {va vb : Nat} {Q : Int32 → Sg → Prop} (hN : NC N g) (ha : va < 8) (hb : vb < 8) (hab : va ≠ vb)
    (hk : ∀ g', (∀ k, k ≠ 7 → k ≠ 9 → k ≠ 10 → g' k = g k) → RowAt g' (way N (OC g) va vb) → ((way N (OC g) va vb = [] → Q 0 g') ∧ (way N (OC g) va vb ≠ [] → Q 1 g'))) : Cw_find (nI va) (nI vb) g Q := by
  have hD := dst_is hN.1 (OC g) hb
  refine Vw_find (Sw_measure hN hb hD (fun g1 hF1 hfr1 => ?_))
  have hN1 : NC N g1 := hN.fr hfr1
  have hO1 : OC g1 = OC g := OC.fr hfr1
  have hwo := way_ok hN.1 (OC g) ha hb
  by_cases hl : dst N (OC g) vb va < 1000
  · have hway : way N (OC g) va vb = wrow N (OC g) (dst N (OC g) vb) vb 8 va := by unfold way; rw [if_pos hl]
    have hne := (hwo.2.2.2.1 hl).2 hab
    have hr7 := rk_7 (d := dst N (OC g) vb) ha
    have hloop := find_loop (N := N) (g1 := sgU g1 7 4 0) (D := dst N (OC g) vb) (t := vb) (Q := Q) (fin := way N (OC g) va vb)
      (hN1.of (by funext j; rw [sg_k (by decide)]) (by funext j; rw [sg_k (by decide)]) (by funext j; rw [sg_k (by decide)]) (by funext j; rw [sg_k (by decide)]) (by funext j; rw [sg_k (by decide)])) hb
      (by rw [OC.of (g := g1) (by funext j; rw [sg_k (by decide)]) (by funext j; rw [sg_k (by decide)]), hO1]; exact hD)
      (fun v hv => by rw [sg_k (by decide)]; exact hF1 v hv)
      (fun g' hfr hrow => (hk g' (fun k h7 h9 h10 => by rw [hfr k h7 h10]; funext j; rw [sg_k h7, hfr1 k h9]) hrow).2 hne)
      7 va [] (sgU g1 7 4 0) hr7 (by simp; omega) ha hl (fun _ _ _ => rfl) ⟨by rw [sg_s]; rfl, fun j hj => absurd hj (by simp)⟩
    rw [OC.of (g := g1) (g' := sgU g1 7 4 0) (by funext j; rw [sg_k (by decide)]) (by funext j; rw [sg_k (by decide)]), hO1] at hloop
    exact hloop (by rw [hway]; rfl)
  · have hway : way N (OC g) va vb = [] := hwo.2.2.2.2 hl
    have hq := (hk (sgU g1 7 4 0) (fun k h7 h9 h10 => by funext j; rw [sg_k h7, hfr1 k h9]) (by rw [hway]; exact ⟨by rw [sg_s]; rfl, fun j hj => absurd hj (by simp)⟩)).1 hway
    refine Vw_find_15 (brF (by decide) (brF (fun hx => hab ((nI_eq (by omega) (by omega)).mp hx)) ?_))
    refine Vw_leastOnward ⟨vp_in_nI ha (by omega), brF (fun hx => ?_) (brT rfl hq)⟩
    rw [nI_clamp (show va < 2 ^ 31 by omega), sg_k (by decide), hF1 va ha] at hx
    have hb2 := hD.2.1 va ha
    exact hl ((nI_ltI (a := dst N (OC g) vb va) (b := 1000) (by omega) (by omega)).mp hx)
