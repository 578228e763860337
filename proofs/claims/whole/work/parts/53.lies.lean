/-! lies -/
theorem pw_let {N : Net} {sh : Int32} {tk : Nat} {f t : Nat → Int32} : ∀ (k w : Nat), pw N sh tk f t k w ≠ 0 → w < k ∧ f w ≠ -1 := by
  classical
  intro k
  induction k with
  | zero => intro w h; exact absurd rfl h
  | succ k ih =>
    intro w h
    have e : pw N sh tk f t (k + 1) w = stp N sh tk (pw N sh tk f t k) k (f k) (t k) w := rfl
    rw [e] at h
    unfold stp at h
    by_cases hf : f k = -1
    · rw [if_pos hf] at h
      have h2 : pw N sh tk f t k w ≠ 0 := by
        by_cases hp : pullable (pw N sh tk f t k) (t k).toNatClampNeg
        · rw [if_pos hp] at h
          unfold upd at h
          split at h
          · exact absurd rfl h
          · exact h
        · rw [if_neg hp] at h; exact h
      have := ih w h2
      exact ⟨by omega, this.2⟩
    · rw [if_neg hf] at h
      by_cases hw : w = k
      · subst hw; exact ⟨by omega, hf⟩
      · unfold upd at h
        rw [if_neg hw] at h
        have := ih w h
        exact ⟨by omega, this.2⟩
theorem mask_eq {a b c d : Nat} (ha : a < 8) (hb : b < 8) (hc : c < 8) (hd : d < 8) (hab : a ≠ b) (hcd : c ≠ d) : (sb (nI a) ||| sb (nI b) = sb (nI c) ||| sb (nI d)) ↔ ((a = c ∧ b = d) ∨ (a = d ∧ b = c)) := by
  constructor
  · intro h
    have hbit : ∀ i : Nat, (i = a ∨ i = b) ↔ (i = c ∨ i = d) := fun i => by
      have h1 := congrArg (fun x => bt x i) h
      simp only [b_or] at h1
      rw [b_sb (by omega), b_sb (by omega), b_sb (by omega), b_sb (by omega)] at h1
      have h2 := congrArg (fun x => x = true) h1
      simp at h2
      exact h2
    have p1 := (hbit a).mp (Or.inl rfl)
    have p2 := (hbit b).mp (Or.inr rfl)
    omega
  · rintro (⟨rfl, rfl⟩ | ⟨rfl, rfl⟩)
    · rfl
    · exact Int32.or_comm _ _
theorem op_lies {g : Sg} {Q : Int32 → Int32 → Sg → Prop} (hR : Rel g) (hQ : ∀ r g', Rel g' → Q r r g') : Cx_lies g (fun r g1 => Cm_lies g1 (fun r' g2 => Q r r' g2)) := by
  obtain ⟨⟨bv, n, sh, tk, hd, m, f, t, hX⟩, hJ, hSh⟩ := id hR
  obtain ⟨hC, hM, hSet, hSt, hB⟩ := id hX
  have hm := hSt.2.2.1
  obtain ⟨mc, sc, hmc, hsc, j1, j2, j3, j4, hj, -⟩ := id hJ
  obtain ⟨P, hP⟩ : ∃ P, P = pw (NT bv n) sh tk f t m := ⟨_, rfl⟩
  have hly : g 14 m = ly P := by rw [hP]; exact (hB m (Nat.le_refl m)).1
  refine Vx_lies ?_
  rw [hSt.1, nI_clamp (show m < 2 ^ 31 by omega), hly]
  refine ⟨vp_in_nI (by omega) (by omega), ?_⟩
  obtain ⟨T, hT⟩ : ∃ T : Nat → Bool, ∀ i, T i = true ↔ (bt (ly P) (g 27 i).toNatClampNeg = true ∧ (sb (g 12 (g 27 i).toNatClampNeg) ||| sb (g 13 (g 27 i).toNatClampNeg)) = g 28 i) := ⟨fun i => decide (bt (ly P) (g 27 i).toNatClampNeg = true ∧ (sb (g 12 (g 27 i).toNatClampNeg) ||| sb (g 13 (g 27 i).toNatClampNeg)) = g 28 i), fun i => by simp⟩
  have loopM : ∀ (g' : Sg), Rel g' → Kp scA g g' → MG g' P → ∀ (d i : Nat), i + d = mc → Hm_liesNow_4 (bsf i (fun i => !T i)) (nI i) g' (fun r' g2 => Q (bsf mc (fun i => !T i)) r' g2) := by
    intro g' hR' hk' hG d
    induction d with
    | zero =>
      intro i hi
      have him : i = mc := by omega
      refine Vm_liesNow_4 ?_
      rw [hk' 34 26 rfl, j2, him]
      exact brT (nI_le (Nat.le_refl _) (by omega)) (hQ _ _ hR')
    | succ d ih =>
      intro i hi
      have h1 := ih (i + 1) (by omega)
      have e : bsf (i + 1) (fun i => !T i) = bsf i (fun i => !T i) ||| (if (!T i) = true then sb (nI i) else 0) := rfl
      rw [e] at h1
      obtain ⟨w, a, b, hw, ha, hb, hab, e27, e28, e53, e54, e55⟩ := hj i (by omega)
      refine Vm_liesNow_4 ?_
      have k3 : 3 * nI i = nI (3 * i) := pk_mul 3 i
      have k31 : nI (3 * i) + 1 = nI (3 * i + 1) := nI_add _ 1
      have k32 : nI (3 * i) + 2 = nI (3 * i + 2) := nI_add _ 2
      rw [hk' 34 26 rfl, j2, nI_1, k3, k31, k32, nI_clamp (show 3 * i < 2 ^ 31 by omega), nI_clamp (show 3 * i + 1 < 2 ^ 31 by omega), nI_clamp (show 3 * i + 2 < 2 ^ 31 by omega), hk'.cell 53 (fun _ => rfl), e53, e54, e55]
      have k2 : 2 * nI w = nI (2 * w) := pk_mul 2 w
      have k21 : nI (2 * w) + 1 = nI (2 * w + 1) := nI_add _ 1
      rw [k2, k21, nI_clamp (show 2 * w < 2 ^ 31 by omega), nI_clamp (show 2 * w + 1 < 2 ^ 31 by omega), hk'.cell 42 (fun _ => rfl), hG.1, tbb_n _ (show w < 32 by omega)]
      have v2 : vp_in (nI (2 * w)) 32 := vp_in_nI (by omega) (by omega)
      have v21 : vp_in (nI (2 * w + 1)) 32 := vp_in_nI (by omega) (by omega)
      refine brF (nI_ge (by omega) (by omega)) ⟨vp_in_nI (by omega) (by omega), vp_in_nI (by omega) (by omega), vp_in_nI (by omega) (by omega), v2, ?_⟩
      have key : T i = true ↔ (((g 42 (2 * w) = nI a ∧ g 42 (2 * w + 1) = nI b) ∨ (g 42 (2 * w) = nI b ∧ g 42 (2 * w + 1) = nI a)) ∧ bt (ly P) w = true) := by
        rw [hT i, e27, nI_clamp (show w < 2 ^ 31 by omega), e28]
        by_cases hl : bt (ly P) w = true
        · have hne := (ly_bt P hw).mp hl
          rw [hP] at hne
          obtain ⟨hwm, hfw⟩ := pw_let m w hne
          obtain ⟨hok, q12, q13, q42, q43⟩ := hSt.2.2.2 w hwm
          rcases hok with hok | ⟨a', b', ha', hb', hab', ef, et⟩
          · exact absurd hok.1 hfw
          · rw [q12, q13, q42, q43, ef, et, mask_eq ha' hb' ha hb hab' hab, nI_eq (by omega) (by omega), nI_eq (by omega) (by omega), nI_eq (by omega) (by omega), nI_eq (by omega) (by omega)]
            exact and_comm
        · exact ⟨fun h => absurd h.1 hl, fun h => absurd h.2 hl⟩
      have K0 : (((g 42 (2 * w) = nI a ∧ g 42 (2 * w + 1) = nI b) ∨ (g 42 (2 * w) = nI b ∧ g 42 (2 * w + 1) = nI a)) ∧ bt (ly P) w = true) → Hm_liesNow_4 (bsf i (fun i => !T i) ||| 0) (nI (i + 1)) g' (fun r' g2 => Q (bsf mc (fun i => !T i)) r' g2) := fun hh => by
        rw [if_neg (by rw [key.mpr hh]; decide)] at h1
        exact h1
      have K1 : ¬ (((g 42 (2 * w) = nI a ∧ g 42 (2 * w + 1) = nI b) ∨ (g 42 (2 * w) = nI b ∧ g 42 (2 * w + 1) = nI a)) ∧ bt (ly P) w = true) → Hm_liesNow_4 (bsf i (fun i => !T i) ||| sb (nI i)) (nI (i + 1)) g' (fun r' g2 => Q (bsf mc (fun i => !T i)) r' g2) := fun hh => by
        have : T i = false := by
          cases hti : T i
          · rfl
          · exact absurd (key.mp hti) hh
        rw [if_pos (by rw [this]; rfl)] at h1
        exact h1
      refine ⟨fun q1 => ⟨v21, fun q2 => ⟨fun q3 => K0 ⟨Or.inl ⟨q1, q2⟩, q3⟩, fun q3 => K1 (fun q => q3 q.2)⟩, fun q2 => ⟨v2, ?_⟩⟩, fun q1 => ⟨v2, ?_⟩⟩
      · refine ⟨fun q4 => ⟨v21, fun q5 => ⟨fun q3 => K0 ⟨Or.inr ⟨q4, q5⟩, q3⟩, fun q3 => K1 (fun q => q3 q.2)⟩, fun q5 => ?_⟩, fun q4 => ?_⟩
        · have hn := K1 (fun q => q.1.elim (fun r => q2 r.2) (fun r => q5 r.2))
          exact ⟨fun _ => hn, fun _ => hn⟩
        · have hn := K1 (fun q => q.1.elim (fun r => q2 r.2) (fun r => q4 r.1))
          exact ⟨fun _ => hn, fun _ => hn⟩
      · refine ⟨fun q4 => ⟨v21, fun q5 => ⟨fun q3 => K0 ⟨Or.inr ⟨q4, q5⟩, q3⟩, fun q3 => K1 (fun q => q3 q.2)⟩, fun q5 => ?_⟩, fun q4 => ?_⟩
        · have hn := K1 (fun q => q.1.elim (fun r => q1 r.1) (fun r => q5 r.2))
          exact ⟨fun _ => hn, fun _ => hn⟩
        · have hn := K1 (fun q => q.1.elim (fun r => q1 r.1) (fun r => q4 r.1))
          exact ⟨fun _ => hn, fun _ => hn⟩
  have loop : ∀ (d i : Nat), i + d = mc → Hx_lies_12 (ly P) (bsf i (fun i => !T i)) (nI i) g (fun r g1 => Cm_lies g1 (fun r' g2 => Q r r' g2)) := by
    intro d
    induction d with
    | zero =>
      intro i hi
      have him : i = mc := by omega
      refine Vx_lies_12 ?_
      rw [j1, him]
      refine brT (nI_le (Nat.le_refl _) (by omega)) (Vm_lies (hX.goesAll (fun g' hk' _ hG _ _ => Vm_liesNow ?_)))
      rw [← hP] at hG
      exact loopM g' (hR.sc hk') hk' hG mc 0 (by omega)
    | succ d ih =>
      intro i hi
      have h1 := ih (i + 1) (by omega)
      have e : bsf (i + 1) (fun i => !T i) = bsf i (fun i => !T i) ||| (if (!T i) = true then sb (nI i) else 0) := rfl
      rw [e] at h1
      obtain ⟨w, a, b, hw, ha, hb, hab, e27, e28, e53, e54, e55⟩ := hj i (by omega)
      have hTi := hT i
      rw [e27, nI_clamp (show w < 2 ^ 31 by omega)] at hTi
      refine Vx_lies_12 ?_
      rw [j1, nI_1, nI_clamp (show i < 2 ^ 31 by omega), e27, nI_clamp (show w < 2 ^ 31 by omega), tbb_n _ (show w < 32 by omega)]
      refine brF (nI_ge (by omega) (by omega)) ⟨vp_in_nI (by omega) (by omega), ?_⟩
      have K1 : T i = false → Hx_lies_12 (ly P) (bsf i (fun i => !T i) ||| sb (nI i)) (nI (i + 1)) g (fun r g1 => Cm_lies g1 (fun r' g2 => Q r r' g2)) := fun hh => by
        rw [if_pos (by rw [hh]; rfl)] at h1
        exact h1
      have nt : ¬ T i = true → T i = false := fun hh => by simpa using hh
      refine ⟨fun q1 => ⟨vp_in_nI (by omega) (by omega), vp_in_nI (by omega) (by omega), fun q2 => ?_, fun q2 => K1 (nt (fun hh => q2 (hTi.mp hh).2))⟩, fun q1 => K1 (nt (fun hh => q1 (hTi.mp hh).1))⟩
      rw [if_neg (by rw [hTi.mpr ⟨q1, q2⟩]; decide), Int32.or_zero] at h1
      exact h1
  exact loop mc 0 (by omega)
