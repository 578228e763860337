/-! count: the parts -/
theorem Sb_howManyDone {g : Sg} {N : Net} {sh : Int32} {tk m : Nat} {f t : Nat → Int32} {Q : Int32 → Sg → Prop} (hm : m ≤ 16) (h6 : g 11 6 = nI m) (hB : BkC N sh tk f t g m) (hQ : Q (nI (dn N sh tk f t m)) g) : Cb_howManyDone g Q := by
  have loop : ∀ (d j : Nat), j + d = m → Hb_howManyDone_4 (nI (dn N sh tk f t j)) (nI j) g Q := by
    intro d
    induction d with
    | zero =>
      intro j hj
      have : j = m := by omega
      subst this
      refine Vb_howManyDone_4 ?_
      rw [h6]
      exact brT (nI_le (Nat.le_refl j) (by omega)) hQ
    | succ d ih =>
      intro j hj
      have h1 := ih (j + 1) (by omega)
      have e : dn N sh tk f t (j + 1) = dn N sh tk f t j + b1 (dnB N sh tk f t j) := rfl
      rw [e] at h1
      refine Vb_howManyDone_4 ?_
      rw [h6, nI_1, nI_clamp (show j + 1 < 2 ^ 31 by omega), nI_clamp (show j < 2 ^ 31 by omega), nI_1]
      refine brF (nI_ge (show j < m by omega) (by omega)) ⟨vp_in_nI (by omega) (by omega), vp_in_nI (by omega) (by omega), ?_⟩
      have hi := dnB_iff hB (show j < m by omega)
      by_cases hd : dnB N sh tk f t j = true
      · rw [hd] at h1
        exact brT (hi.mpr hd) h1
      · have hd' : dnB N sh tk f t j = false := by simpa using hd
        rw [hd'] at h1
        exact brF (fun hh => hd (hi.mp hh)) h1
  exact Vb_howManyDone (loop m 0 (by omega))
theorem Sp_wholeLength {N : Net} {g : Sg} {Q : Int32 → Sg → Prop} (hN : NC N g) (hQ : Q (nI (sm N.1 (nL N))) g) : Cp_wholeLength g Q := by
  have h16 := hN.1.1
  have loop : ∀ (d p : Nat), p + d = N.1 → Hp_wholeLength_4 (nI (sm p (nL N))) (nI p) g Q := by
    intro d
    induction d with
    | zero =>
      intro p hp
      have hpn : p = N.1 := by omega
      refine Vp_wholeLength_4 ?_
      rw [hN.2.1, hpn]
      exact brT (nI_le (Nat.le_refl _) (by omega)) hQ
    | succ d ih =>
      intro p hp
      have h1 := ih (p + 1) (by omega)
      have e : sm (p + 1) (nL N) = sm p (nL N) + nL N p := rfl
      rw [e] at h1
      refine Vp_wholeLength_4 ?_
      rw [hN.2.1, nI_1, nI_clamp (show p < 2 ^ 31 by omega), (hN.2.2 p (by omega)).2.2.1, nI_add]
      exact brF (nI_ge (show p < N.1 by omega) (by omega)) ⟨vp_in_nI (by omega) (by omega), h1⟩
  exact Vp_wholeLength (loop N.1 0 (by omega))
theorem Sm_wholeLength {N : Net} {g : Sg} {Q : Int32 → Sg → Prop} (hN : NM N g) (hQ : Q (nI (sm N.1 (nL N))) g) : Hm_count_96 0 0 g Q := by
  have h16 := hN.1.1
  have loop : ∀ (d p : Nat), p + d = N.1 → Hm_count_96 (nI (sm p (nL N))) (nI p) g Q := by
    intro d
    induction d with
    | zero =>
      intro p hp
      have hpn : p = N.1 := by omega
      refine Vm_count_96 ?_
      rw [hN.2.1, hpn]
      exact brT (nI_le (Nat.le_refl _) (by omega)) hQ
    | succ d ih =>
      intro p hp
      have h1 := ih (p + 1) (by omega)
      have e : sm (p + 1) (nL N) = sm p (nL N) + nL N p := rfl
      rw [e] at h1
      refine Vm_count_96 ?_
      rw [hN.2.1, nI_1, show 4 * nI p = nI (4 * p) from pk_mul 4 p, show nI (4 * p) + 2 = nI (4 * p + 2) from nI_add _ 2, nI_clamp (show 4 * p + 2 < 2 ^ 31 by omega), (hN.2.2 p (by omega)).2.2.1, nI_add]
      exact brF (nI_ge (show p < N.1 by omega) (by omega)) ⟨vp_in_nI (by omega) (by omega), h1⟩
  exact loop N.1 0 (by omega)
