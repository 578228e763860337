/-! judged, wire, state -/
theorem scM_scA {k j : Nat} (h : scA k j = false) : scM k j = false := by
  simp [scA] at h
  simp [scM]
  omega
theorem RelX.goes {g : Sg} {bv : Nat → Nat} {n : Nat} {sh : Int32} {tk hd m : Nat} {f t : Nat → Int32} (h : RelX g bv n sh tk hd m f t) {k : Nat} (hk : k ≤ m) {Q : Sg → Prop}
    (hq : ∀ g', Kp scA g g' → NM (NT bv n) g' → MG g' (pw (NT bv n) sh tk f t k) → g' 34 16 = nI (dn (NT bv n) sh tk f t k) → g' 34 17 = fnd (NT bv n) sh tk f t k → Q g') : Cm_goes (nI k) g Q := by
  obtain ⟨hC, hM, hSet, hSt, hB⟩ := h
  have hm := hSt.2.2.1
  have htk := hSet.2.2.2.2.2.2.1
  exact Sm_goes (Sm_reads hM) ⟨hSet.2.1, hSet.2.2.2.2.1, fun j hj => (hSt.2.2.2 j (by omega)).2.2.2⟩ (by omega) (by omega) (fun j hj => (hSt.2.2.2 j (by omega)).1) (fun g' hk' => hq g' (fun k j hx => hk' k j (scM_scA hx)))
theorem RelX.goesAll {g : Sg} {bv : Nat → Nat} {n : Nat} {sh : Int32} {tk hd m : Nat} {f t : Nat → Int32} (h : RelX g bv n sh tk hd m f t) {Q : Sg → Prop}
    (hq : ∀ g', Kp scA g g' → NM (NT bv n) g' → MG g' (pw (NT bv n) sh tk f t m) → g' 34 16 = nI (dn (NT bv n) sh tk f t m) → g' 34 17 = fnd (NT bv n) sh tk f t m → Q g') : Cm_goesAll g Q := by
  refine Vm_goesAll ?_
  rw [h.2.2.2.1.2.1]
  exact h.goes (Nat.le_refl m) hq
theorem dnB_iff {g : Sg} {N : Net} {sh : Int32} {tk m : Nat} {f t : Nat → Int32} (hB : BkC N sh tk f t g m) {j : Nat} (hj : j < m) : (¬ g 14 (j + 1) = g 14 j) ↔ dnB N sh tk f t j = true := by
  unfold dnB
  rw [(hB (j + 1) (by omega)).1, (hB j (by omega)).1]
  simp
theorem Sb_firstNotDone {g : Sg} {N : Net} {sh : Int32} {tk m : Nat} {f t : Nat → Int32} {Q : Int32 → Sg → Prop} (hm : m ≤ 16) (h6 : g 11 6 = nI m) (hB : BkC N sh tk f t g m) (hQ : Q (fnd N sh tk f t m) g) : Cb_firstNotDone g Q := by
  have stay : ∀ (d j : Nat) (x : Int32), j + d = m → fnd N sh tk f t j = x → x ≠ -1 → fnd N sh tk f t m = x := by
    intro d
    induction d with
    | zero => intro j x hj hx _; rw [show m = j by omega]; exact hx
    | succ d ih =>
      intro j x hj hx hne
      refine ih (j + 1) x (by omega) ?_ hne
      show (if _ then _ else _) = x
      rw [if_neg (fun hh => hne (hx.symm.trans hh.2))]
      exact hx
  have loop : ∀ (d j : Nat), j + d = m → fnd N sh tk f t j = -1 → Hb_firstNotDone_2 (nI j) g Q := by
    intro d
    induction d with
    | zero =>
      intro j hj hx
      have : j = m := by omega
      subst this
      refine Vb_firstNotDone_2 ?_
      rw [h6]
      refine brT (nI_le (Nat.le_refl j) (by omega)) ?_
      rw [← hx]; exact hQ
    | succ d ih =>
      intro j hj hx
      refine Vb_firstNotDone_2 ?_
      rw [h6, nI_1, nI_clamp (show j + 1 < 2 ^ 31 by omega), nI_clamp (show j < 2 ^ 31 by omega)]
      refine brF (nI_ge (show j < m by omega) (by omega)) ⟨vp_in_nI (by omega) (by omega), vp_in_nI (by omega) (by omega), ?_⟩
      have hi := dnB_iff hB (show j < m by omega)
      by_cases hd : dnB N sh tk f t j = true
      · refine brT (hi.mpr hd) (ih (j + 1) (by omega) ?_)
        show (if _ then _ else _) = _
        rw [if_neg (fun hh => by rw [hd] at hh; exact absurd hh.1 (by decide))]
        exact hx
      · refine brF (fun hh => hd (hi.mp hh)) ?_
        have hj1 : fnd N sh tk f t (j + 1) = nI j := by
          show (if _ then _ else _) = _
          rw [if_pos ⟨by simpa using hd, hx⟩]
        have := stay d (j + 1) (nI j) (by omega) hj1 (fun hh => by
          have h1 := nI_toInt (show j < 2 ^ 31 by omega)
          rw [hh] at h1
          have h2 : (-1 : Int32).toInt = -1 := by decide
          omega)
        rw [← this]; exact hQ
  exact Vb_firstNotDone (loop m 0 (by omega) rfl)
theorem op_judged {g : Sg} {Q : Int32 → Int32 → Sg → Prop} (hR : Rel g) (hQ : ∀ r g', Rel g' → Q r r g') : Cx_judged g (fun r g1 => Cm_judged g1 (fun r' g2 => Q r r' g2)) := by
  obtain ⟨⟨bv, n, sh, tk, hd, m, f, t, hX⟩, hJ, hSh⟩ := id hR
  obtain ⟨hC, hM, hSet, hSt, hB⟩ := id hX
  refine Vx_judged (Sb_firstNotDone hSt.2.2.1 hSt.1 hB (Vm_judged (hX.goesAll (fun g' hk _ _ _ h17 => ?_))))
  rw [h17]
  exact hQ _ _ (hR.sc hk)
theorem op_wire {x1 x2 : Int32} {g : Sg} {Q : Int32 → Int32 → Sg → Prop} (hR : Rel g) (hQ : ∀ r g', Rel g' → Q r r g') : Cx_wire x1 x2 g (fun r g1 => Cm_wire x1 x2 g1 (fun r' g2 => Q r r' g2)) := by
  obtain ⟨⟨bv, n, sh, tk, hd, m, f, t, hX⟩, hJ, hSh⟩ := id hR
  obtain ⟨hC, hM, hSet, hSt, hB⟩ := id hX
  have hm := hSt.2.2.1
  refine Vx_wire ?_
  rw [hSt.1]
  by_cases h1 : 0 ≤ x1 ∧ x1 ≤ nI m
  · refine brT h1 ?_
    by_cases h2 : isW x2
    · obtain ⟨k, hk, rfl⟩ := rng (by omega) h1
      obtain ⟨w, hw, rfl⟩ := isW_of h2
      refine brT h2 ⟨vp_in_nI (by omega) (by omega), vp_in_nI hw (by omega), ?_⟩
      refine Vm_wire ?_
      rw [hSt.2.1]
      refine brT h1 (brT h2 (hX.goes hk (fun g' hk' _ hG _ _ => ⟨vp_in_nI hw (by omega), ?_⟩)))
      rw [nI_clamp (show k < 2 ^ 31 by omega), nI_clamp (show w < 2 ^ 31 by omega), (hB k hk).1, hG.1]
      have e : (if tbb (ly (pw (NT bv n) sh tk f t k)) (nI w) = true then g 15 w else 0) = (if tbb (ly (pw (NT bv n) sh tk f t k)) (nI w) = true then g' 43 w else 0) := by
        by_cases hb : tbb (ly (pw (NT bv n) sh tk f t k)) (nI w) = true
        · rw [if_pos hb, if_pos hb]
          have hne := (ly_bt _ hw).mp ((tbb_n _ (show w < 32 by omega)).symm.trans hb)
          rw [(hB k hk).2 w hw hne, hG.2.1 w hw hne]
        · rw [if_neg hb, if_neg hb]
      rw [e]
      exact hQ _ _ (hR.sc hk')
    · refine brF h2 (Vm_wire ?_)
      rw [hSt.2.1]
      exact brT h1 (brF h2 (hQ _ _ hR))
  · refine brF h1 (Vm_wire ?_)
    rw [hSt.2.1]
    exact brF h1 (hQ _ _ hR)
theorem Sb_wiresIn {g : Sg} {p : Nat} {ws : Int32} {Q : Int32 → Sg → Prop} (hp : p < 16) (hQ : Q (nI (ld (PC g ws) p)) g) : Cb_wiresIn (nI p) ws g Q := by
  have loop : ∀ (d w : Nat), w + d = 16 → Hb_wiresIn_5 (nI p) ws (nI (sm w (fun v => b1 (bt (PC g ws v) p)))) (nI w) g Q := by
    intro d
    induction d with
    | zero =>
      intro w hw
      have h16 : w = 16 := by omega
      subst h16
      exact Vb_wiresIn_5 (brT (by decide) hQ)
    | succ d ih =>
      intro w hw
      have hst : (if tbb ws (nI w) = true then g 15 (nI w).toNatClampNeg else 0) = PC g ws w := by
        unfold PC
        rw [tbb_n _ (by omega), nI_clamp (show w < 2 ^ 31 by omega)]
      refine Vb_wiresIn_5 (brF (fun hx => ?_) ⟨vp_in_nI (by omega) (by omega), ?_⟩)
      · have := (nI_leI (a := 16) (b := w) (by omega) (by omega)).mp hx
        omega
      · rw [hst, tbb_n _ (show p < 32 by omega), nI_1, nI_1]
        have h1 := ih (w + 1) (by omega)
        have e : sm (w + 1) (fun v => b1 (bt (PC g ws v) p)) = sm w (fun v => b1 (bt (PC g ws v) p)) + b1 (bt (PC g ws w) p) := rfl
        rw [e] at h1
        by_cases hb : bt (PC g ws w) p = true
        · refine brT hb ?_
          rw [hb] at h1
          exact h1
        · refine brF hb ?_
          have hb' : bt (PC g ws w) p = false := by simpa using hb
          rw [hb'] at h1
          exact h1
  exact Vb_wiresIn (loop 16 0 (by omega))
/-- the full ones among the first k pipes -/
def ful (tk : Nat) (P : Nat → Int32) (k : Nat) : Int32 := bsf k (fun p => !decide (ld P p < tk))
theorem Sb_fullPipes {g : Sg} {N : Net} {P : Nat → Int32} {tk : Nat} {ws : Int32} {Q : Int32 → Sg → Prop} (hN : N.1 ≤ 16) (h8 : g 1 8 = nI N.1) (h10 : g 1 10 = nI tk) (htk : tk ≤ 4) (hP : ∀ w, w < 16 → PC g ws w = P w) (hQ : Q (ful tk P N.1) g) : Cb_fullPipes ws g Q := by
  have loop : ∀ (d p : Nat), p + d = N.1 → Hb_fullPipes_4 ws (ful tk P p) (nI p) g Q := by
    intro d
    induction d with
    | zero =>
      intro p hp
      have hpn : p = N.1 := by omega
      refine Vb_fullPipes_4 ?_
      rw [h8, hpn]
      exact brT (nI_le (Nat.le_refl _) (by omega)) hQ
    | succ d ih =>
      intro p hp
      refine Vb_fullPipes_4 ?_
      rw [h8]
      refine brF (nI_ge (show p < N.1 by omega) (by omega)) (Sb_wiresIn (show p < 16 by omega) ?_)
      rw [h10, nI_1, ld_congr (R := P) (fun w hw => hP w hw)]
      have h1 := ih (p + 1) (by omega)
      have hl := ld_le P p
      have e : ful tk P (p + 1) = ful tk P p ||| (if (!decide (ld P p < tk)) = true then sb (nI p) else 0) := rfl
      rw [e] at h1
      rcases Nat.lt_or_ge (ld P p) tk with hlt | hge
      · refine brT (nI_lt hlt (by omega)) ?_
        rw [if_neg (by simp [hlt]), Int32.or_zero] at h1
        exact h1
      · refine brF (nI_nlt hge (by omega)) ?_
        rw [if_pos (by simp; omega)] at h1
        exact h1
  exact Vb_fullPipes (loop N.1 0 (by omega))
theorem Sm_fullNow {g : Sg} {N : Net} {P : Nat → Int32} {tk : Nat} {Q : Int32 → Sg → Prop} (hN : N.1 ≤ 16) (h8 : g 34 8 = nI N.1) (h10 : g 41 1 = nI tk) (htk : tk ≤ 4) (hP : ∀ p, p < 16 → g 44 p = nI (ld P p)) (hQ : Q (ful tk P N.1) g) : Cm_fullNow g Q := by
  have loop : ∀ (d p : Nat), p + d = N.1 → Hm_fullNow_4 (ful tk P p) (nI p) g Q := by
    intro d
    induction d with
    | zero =>
      intro p hp
      have hpn : p = N.1 := by omega
      refine Vm_fullNow_4 ?_
      rw [h8, hpn]
      exact brT (nI_le (Nat.le_refl _) (by omega)) hQ
    | succ d ih =>
      intro p hp
      refine Vm_fullNow_4 ?_
      rw [h8]
      refine brF (nI_ge (show p < N.1 by omega) (by omega)) ⟨vp_in_nI (by omega) (by omega), ?_⟩
      rw [h10, nI_1, nI_clamp (show p < 2 ^ 31 by omega), hP p (by omega)]
      have h1 := ih (p + 1) (by omega)
      have hl := ld_le P p
      have e : ful tk P (p + 1) = ful tk P p ||| (if (!decide (ld P p < tk)) = true then sb (nI p) else 0) := rfl
      rw [e] at h1
      rcases Nat.lt_or_ge (ld P p) tk with hlt | hge
      · refine brT (nI_lt hlt (by omega)) ?_
        rw [if_neg (by simp [hlt])] at h1
        exact h1
      · refine brF (nI_nlt hge (by omega)) ?_
        rw [if_pos (by simp; omega)] at h1
        exact h1
  exact Vm_fullNow (loop N.1 0 (by omega))
