/-! halves of queries, for the digest -/
def lftA (P : Nat → Int32) (F : Nat → Nat) (y k : Nat) : Int32 := bsf k (fun w => bt (ly P) w && (decide (F w = 0) || decide (y < F w)))
theorem Sm_leftOn {N : Net} {g : Sg} {P : Nat → Int32} {hd y : Nat} {Q : Int32 → Sg → Prop} (hN : NM N g) (hG : MG g P) (h8 : g 41 2 = nI hd) (h1 : 1 ≤ hd) (h9 : hd ≤ 999) (hy : y ≤ 999) (hQ : Q (lftA P (fun w => fdy N hd (P w)) y 16) g) : Cm_leftOn (nI y) g Q := by
  obtain ⟨F, hFe⟩ : ∃ F : Nat → Nat, F = fun w => fdy N hd (P w) := ⟨_, rfl⟩
  have hF : ∀ w, F w ≤ 999 := fun w => by rw [hFe]; exact Nat.le_trans (fdy_le _ h1 _) h9
  have hz : ∀ (w : Nat) (Q' : Int32 → Sg → Prop), w < 16 → Q' (dI (F w)) g → Cm_failsOf (nI w) g Q' := fun w Q' hw hq => Sm_failsOf hN hG h8 h1 h9 hw (by rw [hFe] at hq; exact hq)
  rw [← hFe] at hQ
  have loop : ∀ (d w : Nat), w + d = 16 → Hm_leftOn_4 (nI y) (lftA P F y w) (nI w) g Q := by
    intro d
    induction d with
    | zero =>
      intro w hw
      have h16 : w = 16 := by omega
      subst h16
      exact Vm_leftOn_4 (brT (by decide) hQ)
    | succ d ih =>
      intro w hw
      have h2 := ih (w + 1) (by omega)
      have e : lftA P F y (w + 1) = lftA P F y w ||| (if (bt (ly P) w && (decide (F w = 0) || decide (y < F w))) = true then sb (nI w) else 0) := rfl
      rw [e] at h2
      have hFw := hF w
      refine Vm_leftOn_4 (brF (fun hx => ?_) (hz w _ (by omega) ?_))
      · have := (nI_leI (a := 16) (b := w) (by omega) (by omega)).mp hx
        omega
      · rw [nI_1, tbb_n _ (show w < 32 by omega), hG.1]
        by_cases hb : bt (ly P) w = true
        · refine brT hb ?_
          by_cases h0 : F w = 0
          · rw [if_pos (by simp [hb, h0])] at h2
            exact brT ((dI_z (by omega)).mpr h0) h2
          · refine brF (fun hx => h0 ((dI_z (by omega)).mp hx)) ?_
            rw [dI_n h0]
            by_cases hc : F w ≤ y
            · rw [if_neg (by simp [hb, h0]; omega)] at h2
              exact brT (nI_le hc (by omega)) h2
            · rw [if_pos (by simp [hb, h0]; omega)] at h2
              exact brF (nI_ge (by omega) (by omega)) h2
        · rw [if_neg (by simp [hb])] at h2
          exact brF hb h2
  exact Vm_leftOn (loop 16 0 (by omega))
theorem Sx_left {g : Sg} {bv : Nat → Nat} {n : Nat} {sh : Int32} {tk hd m : Nat} {f t : Nat → Int32} {y : Nat} {Q : Int32 → Sg → Prop} (hX : RelX g bv n sh tk hd m f t) (hy : y ≤ 999) (hQ : Q (lftA (pw (NT bv n) sh tk f t m) (fun w => fdy (NT bv n) hd (pw (NT bv n) sh tk f t m w)) y 16) g) : Cx_left (nI y) g Q := by
  obtain ⟨hC, hM, hSet, hSt, hB⟩ := id hX
  have hm := hSt.2.2.1
  have hnet := hC.net
  obtain ⟨-, -, -, -, -, -, -, s8, s2, sl, su⟩ := hSet
  have h1 : 0 ≤ nI y ∧ nI y ≤ 999 := rng' (n := 999) (by omega) hy
  refine Vx_left (brT h1 ?_)
  rw [hSt.1, nI_clamp (show m < 2 ^ 31 by omega)]
  refine ⟨vp_in_nI (by omega) (by omega), ?_⟩
  obtain ⟨P, hP⟩ : ∃ P, P = pw (NT bv n) sh tk f t m := ⟨_, rfl⟩
  obtain ⟨F, hFe⟩ : ∃ F : Nat → Nat, F = fun w => fdy (NT bv n) hd (P w) := ⟨_, rfl⟩
  rw [← hP, ← hFe] at hQ
  have hF : ∀ w, F w ≤ 999 := fun w => by rw [hFe]; exact Nat.le_trans (fdy_le _ sl _) su
  have hx : ∀ (w : Nat) (Q' : Int32 → Sg → Prop), w < 16 → Q' (dI (F w)) g → Cx_failingDay (nI w) (g 14 m) g Q' := fun w Q' hw hq => Sx_failingDay hnet s8 sl su hw (by rw [hX.pc (Nat.le_refl m) w hw, ← hP]; rw [hFe] at hq; exact hq)
  have hly : g 14 m = ly P := by rw [hP]; exact (hB m (Nat.le_refl m)).1
  have loop : ∀ (d w : Nat) (z : Int32), w + d = 16 → (∀ i, i < 32 → bt z i = (bt (ly P) i && (decide (w ≤ i) || (decide (F i = 0) || decide (y < F i))))) → Hx_left_27 (nI y) (g 14 m) z (nI w) g Q := by
    intro d
    induction d with
    | zero =>
      intro w z hw hz
      have h16 : w = 16 := by omega
      subst h16
      refine Vx_left_27 (brT (by decide) ?_)
      have e : z = bsf 16 (fun w => bt (ly P) w && (decide (F w = 0) || decide (y < F w))) := b_ext (fun i hi => by
        rw [hz i hi, bsf_bt _ 16 i (by omega)]
        rcases Nat.lt_or_ge i 16 with hlt | hge
        · have : ¬ 16 ≤ i := by omega
          simp [hlt, this]
        · rw [ly_hi P hge]
          simp)
      rw [e]
      exact hQ
    | succ d ih =>
      intro w z hw hz
      have hFw := hF w
      refine Vx_left_27 (brF (fun hx => ?_) (hx w _ (by omega) ?_))
      · have := (nI_leI (a := 16) (b := w) (by omega) (by omega)).mp hx
        omega
      · rw [nI_1]
        have keep : (F w = 0 ∨ y < F w) → Hx_left_27 (nI y) (g 14 m) z (nI (w + 1)) g Q := fun hk => by
          refine ih (w + 1) z (by omega) (fun i hi => ?_)
          rw [hz i hi]
          by_cases hiw : i = w
          · subst hiw
            rcases hk with hk | hk <;> simp [hk]
          · have : (w ≤ i) = (w + 1 ≤ i) := propext (by omega)
            simp [this]
        by_cases h0 : F w = 0
        · exact brT ((dI_z (by omega)).mpr h0) (keep (Or.inl h0))
        · refine brF (fun hx => h0 ((dI_z (by omega)).mp hx)) ?_
          rw [dI_n h0]
          by_cases hc : y < F w
          · exact brT (nI_lt hc (by omega)) (keep (Or.inr hc))
          · refine brF (nI_nlt (by omega) (by omega)) (ih (w + 1) _ (by omega) (fun i hi => ?_))
            rw [b_and, b_xor, b_sb (by omega), b_m1 i hi, hz i hi]
            by_cases hiw : i = w
            · subst hiw
              have : ¬ i + 1 ≤ i := by omega
              simp [h0, hc, this]
            · have : (w ≤ i) = (w + 1 ≤ i) := propext (by omega)
              simp [hiw, this]
  exact loop 16 0 (g 14 m) (by omega) (fun i hi => by rw [hly]; simp)
def lieT (g : Sg) (P : Nat → Int32) (i : Nat) : Bool := decide (bt (ly P) (g 27 i).toNatClampNeg = true ∧ (sb (g 12 (g 27 i).toNatClampNeg) ||| sb (g 13 (g 27 i).toNatClampNeg)) = g 28 i)
theorem Sm_liesNow {g g' : Sg} {bv : Nat → Nat} {n : Nat} {sh : Int32} {tk hd m : Nat} {f t : Nat → Int32} {mc : Nat} {Q : Int32 → Sg → Prop} (hX : RelX g bv n sh tk hd m f t) (hmc : mc ≤ 8) (j2 : g 34 26 = nI mc) (hj : ∀ i, i < mc → ∃ w a b : Nat, w < 16 ∧ a < 8 ∧ b < 8 ∧ a ≠ b ∧ g 27 i = nI w ∧ g 28 i = sb (nI a) ||| sb (nI b) ∧ g 53 (3 * i) = nI w ∧ g 53 (3 * i + 1) = nI a ∧ g 53 (3 * i + 2) = nI b) (hk' : Kp scA g g') (hG : MG g' (pw (NT bv n) sh tk f t m)) (hQ : Q (bsf mc (fun i => !lieT g (pw (NT bv n) sh tk f t m) i)) g') : Cm_liesNow g' Q := by
  obtain ⟨hC, hM, hSet, hSt, hB⟩ := id hX
  have hm := hSt.2.2.1
  obtain ⟨P, hP⟩ : ∃ P, P = pw (NT bv n) sh tk f t m := ⟨_, rfl⟩
  rw [← hP] at hG hQ
  obtain ⟨T, hTe⟩ : ∃ T : Nat → Bool, T = lieT g P := ⟨_, rfl⟩
  have hT : ∀ i, T i = true ↔ (bt (ly P) (g 27 i).toNatClampNeg = true ∧ (sb (g 12 (g 27 i).toNatClampNeg) ||| sb (g 13 (g 27 i).toNatClampNeg)) = g 28 i) := fun i => by rw [hTe]; simp [lieT]
  have hQ : Q (bsf mc (fun i => !T i)) g' := by rw [hTe]; exact hQ
  have loopM : ∀ (d i : Nat), i + d = mc → Hm_liesNow_4 (bsf i (fun i => !T i)) (nI i) g' Q := by
    intro d
    induction d with
    | zero =>
      intro i hi
      have him : i = mc := by omega
      refine Vm_liesNow_4 ?_
      rw [hk' 34 26 rfl, j2, him]
      exact brT (nI_le (Nat.le_refl _) (by omega)) hQ
    | succ d ih =>
      intro i hi
      have h1 := ih (i + 1) (by omega)
      have e : bsf (i + 1) (fun i => !T i) = bsf i (fun i => !T i) ||| (if (!T i) = true then sb (nI i) else 0) := rfl
      rw [e] at h1
      obtain ⟨w, a, b, hw, ha, hb, hab, e27, e28, e53, e54, e55⟩ := hj i (by omega)
      refine Vm_liesNow_4 ?_
      have k3 : 3 * nI i = nI (3 * i) := pk_mul 3 i
      have k31 : nI (3 * i) + 1 = nI (3 * i + 1) := nI_add _ 1
      have k32 : nI (3 * i) + 2 = nI (3 * i + 2) := nI_add _ 2
      rw [hk' 34 26 rfl, j2, nI_1, k3, k31, k32, nI_clamp (show 3 * i < 2 ^ 31 by omega), nI_clamp (show 3 * i + 1 < 2 ^ 31 by omega), nI_clamp (show 3 * i + 2 < 2 ^ 31 by omega), hk'.cell 53 (fun _ => rfl), e53, e54, e55]
      have k2 : 2 * nI w = nI (2 * w) := pk_mul 2 w
      have k21 : nI (2 * w) + 1 = nI (2 * w + 1) := nI_add _ 1
      rw [k2, k21, nI_clamp (show 2 * w < 2 ^ 31 by omega), nI_clamp (show 2 * w + 1 < 2 ^ 31 by omega), hk'.cell 42 (fun _ => rfl), hG.1, tbb_n _ (show w < 32 by omega)]
      have v2 : vp_in (nI (2 * w)) 32 := vp_in_nI (by omega) (by omega)
      have v21 : vp_in (nI (2 * w + 1)) 32 := vp_in_nI (by omega) (by omega)
      refine brF (nI_ge (by omega) (by omega)) ⟨vp_in_nI (by omega) (by omega), vp_in_nI (by omega) (by omega), vp_in_nI (by omega) (by omega), v2, ?_⟩
      have key : T i = true ↔ (((g 42 (2 * w) = nI a ∧ g 42 (2 * w + 1) = nI b) ∨ (g 42 (2 * w) = nI b ∧ g 42 (2 * w + 1) = nI a)) ∧ bt (ly P) w = true) := by
        rw [hT i, e27, nI_clamp (show w < 2 ^ 31 by omega), e28]
        by_cases hl : bt (ly P) w = true
        · have hne := (ly_bt P hw).mp hl
          rw [hP] at hne
          obtain ⟨hwm, hfw⟩ := pw_let m w hne
          obtain ⟨hok, q12, q13, q42, q43⟩ := hSt.2.2.2 w hwm
          rcases hok with hok | ⟨a', b', ha', hb', hab', ef, et⟩
          · exact absurd hok.1 hfw
          · rw [q12, q13, q42, q43, ef, et, mask_eq ha' hb' ha hb hab' hab, nI_eq (by omega) (by omega), nI_eq (by omega) (by omega), nI_eq (by omega) (by omega), nI_eq (by omega) (by omega)]
            exact and_comm
        · exact ⟨fun h => absurd h.1 hl, fun h => absurd h.2 hl⟩
      have K0 : (((g 42 (2 * w) = nI a ∧ g 42 (2 * w + 1) = nI b) ∨ (g 42 (2 * w) = nI b ∧ g 42 (2 * w + 1) = nI a)) ∧ bt (ly P) w = true) → Hm_liesNow_4 (bsf i (fun i => !T i) ||| 0) (nI (i + 1)) g' Q := fun hh => by
        rw [if_neg (by rw [key.mpr hh]; decide)] at h1
        exact h1
      have K1 : ¬ (((g 42 (2 * w) = nI a ∧ g 42 (2 * w + 1) = nI b) ∨ (g 42 (2 * w) = nI b ∧ g 42 (2 * w + 1) = nI a)) ∧ bt (ly P) w = true) → Hm_liesNow_4 (bsf i (fun i => !T i) ||| sb (nI i)) (nI (i + 1)) g' Q := fun hh => by
        have : T i = false := by
          cases hti : T i
          · rfl
          · exact absurd (key.mp hti) hh
        rw [if_pos (by rw [this]; rfl)] at h1
        exact h1
      refine ⟨fun q1 => ⟨v21, fun q2 => ⟨fun q3 => K0 ⟨Or.inl ⟨q1, q2⟩, q3⟩, fun q3 => K1 (fun q => q3 q.2)⟩, fun q2 => ⟨v2, ?_⟩⟩, fun q1 => ⟨v2, ?_⟩⟩
      · refine ⟨fun q4 => ⟨v21, fun q5 => ⟨fun q3 => K0 ⟨Or.inr ⟨q4, q5⟩, q3⟩, fun q3 => K1 (fun q => q3 q.2)⟩, fun q5 => ?_⟩, fun q4 => ?_⟩
        · have hn := K1 (fun q => q.1.elim (fun r => q2 r.2) (fun r => q5 r.2))
          exact ⟨fun _ => hn, fun _ => hn⟩
        · have hn := K1 (fun q => q.1.elim (fun r => q2 r.2) (fun r => q4 r.1))
          exact ⟨fun _ => hn, fun _ => hn⟩
      · refine ⟨fun q4 => ⟨v21, fun q5 => ⟨fun q3 => K0 ⟨Or.inr ⟨q4, q5⟩, q3⟩, fun q3 => K1 (fun q => q3 q.2)⟩, fun q5 => ?_⟩, fun q4 => ?_⟩
        · have hn := K1 (fun q => q.1.elim (fun r => q1 r.1) (fun r => q5 r.2))
          exact ⟨fun _ => hn, fun _ => hn⟩
        · have hn := K1 (fun q => q.1.elim (fun r => q1 r.1) (fun r => q4 r.1))
          exact ⟨fun _ => hn, fun _ => hn⟩
  exact Vm_liesNow (loopM mc 0 (by omega))
theorem Sx_lies {g : Sg} {bv : Nat → Nat} {n : Nat} {sh : Int32} {tk hd m : Nat} {f t : Nat → Int32} {mc : Nat} {Q : Int32 → Sg → Prop} (hX : RelX g bv n sh tk hd m f t) (hmc : mc ≤ 8) (j1 : g 26 3 = nI mc) (hj : ∀ i, i < mc → ∃ w a b : Nat, w < 16 ∧ a < 8 ∧ b < 8 ∧ a ≠ b ∧ g 27 i = nI w ∧ g 28 i = sb (nI a) ||| sb (nI b) ∧ g 53 (3 * i) = nI w ∧ g 53 (3 * i + 1) = nI a ∧ g 53 (3 * i + 2) = nI b) (hQ : Q (bsf mc (fun i => !lieT g (pw (NT bv n) sh tk f t m) i)) g) : Cx_lies g Q := by
  obtain ⟨hC, hM, hSet, hSt, hB⟩ := id hX
  have hm := hSt.2.2.1
  obtain ⟨P, hP⟩ : ∃ P, P = pw (NT bv n) sh tk f t m := ⟨_, rfl⟩
  have hly : g 14 m = ly P := by rw [hP]; exact (hB m (Nat.le_refl m)).1
  rw [← hP] at hQ
  obtain ⟨T, hTe⟩ : ∃ T : Nat → Bool, T = lieT g P := ⟨_, rfl⟩
  have hT : ∀ i, T i = true ↔ (bt (ly P) (g 27 i).toNatClampNeg = true ∧ (sb (g 12 (g 27 i).toNatClampNeg) ||| sb (g 13 (g 27 i).toNatClampNeg)) = g 28 i) := fun i => by rw [hTe]; simp [lieT]
  have hQ : Q (bsf mc (fun i => !T i)) g := by rw [hTe]; exact hQ
  refine Vx_lies ?_
  rw [hSt.1, nI_clamp (show m < 2 ^ 31 by omega), hly]
  refine ⟨vp_in_nI (by omega) (by omega), ?_⟩
  have loop : ∀ (d i : Nat), i + d = mc → Hx_lies_12 (ly P) (bsf i (fun i => !T i)) (nI i) g Q := by
    intro d
    induction d with
    | zero =>
      intro i hi
      have him : i = mc := by omega
      refine Vx_lies_12 ?_
      rw [j1, him]
      exact brT (nI_le (Nat.le_refl _) (by omega)) hQ
    | succ d ih =>
      intro i hi
      have h1 := ih (i + 1) (by omega)
      have e : bsf (i + 1) (fun i => !T i) = bsf i (fun i => !T i) ||| (if (!T i) = true then sb (nI i) else 0) := rfl
      rw [e] at h1
      obtain ⟨w, a, b, hw, ha, hb, hab, e27, e28, e53, e54, e55⟩ := hj i (by omega)
      have hTi := hT i
      rw [e27, nI_clamp (show w < 2 ^ 31 by omega)] at hTi
      refine Vx_lies_12 ?_
      rw [j1, nI_1, nI_clamp (show i < 2 ^ 31 by omega), e27, nI_clamp (show w < 2 ^ 31 by omega), tbb_n _ (show w < 32 by omega)]
      refine brF (nI_ge (by omega) (by omega)) ⟨vp_in_nI (by omega) (by omega), ?_⟩
      have K1 : T i = false → Hx_lies_12 (ly P) (bsf i (fun i => !T i) ||| sb (nI i)) (nI (i + 1)) g Q := fun hh => by
        rw [if_pos (by rw [hh]; rfl)] at h1
        exact h1
      have nt : ¬ T i = true → T i = false := fun hh => by simpa using hh
      refine ⟨fun q1 => ⟨vp_in_nI (by omega) (by omega), vp_in_nI (by omega) (by omega), fun q2 => ?_, fun q2 => K1 (nt (fun hh => q2 (hTi.mp hh).2))⟩, fun q1 => K1 (nt (fun hh => q1 (hTi.mp hh).1))⟩
      rw [if_neg (by rw [hTi.mpr ⟨q1, q2⟩]; decide), Int32.or_zero] at h1
      exact h1
  exact loop mc 0 (by omega)
noncomputable def shA (N : Net) (sh : Int32) (tk : Nat) (P : Nat → Int32) (a b : Nat) : Int32 := if way N (opn sh tk P) a b = [] then -1 else nI (((way N (opn sh tk P) a b).map (nL N)).sum)
theorem Sx_short {g : Sg} {bv : Nat → Nat} {n : Nat} {sh : Int32} {tk hd m : Nat} {f t : Nat → Int32} {a b : Nat} {Q : Int32 → Sg → Prop} (hX : RelX g bv n sh tk hd m f t) (ha : a < 8) (hb : b < 8) (hab : a ≠ b) (hQ : ∀ g', Kp scA g g' → Q (shA (NT bv n) sh tk (pw (NT bv n) sh tk f t m) a b) g') : Cx_shortest (nI a) (nI b) (-1) g Q := by
  refine Vx_shortest (brT (twoE_n ha hb hab) (brT (by decide) (hX.cway ha hb hab (fun g1 hf1 hrow => ?_))))
  have hk1 : Kp scA g g1 := fun k j hk => by
    rw [hf1 k (fun hx => by subst hx; simp [scA] at hk) (fun hx => by subst hx; simp [scA] at hk) (fun hx => by subst hx; simp [scA] at hk) (fun hx => by subst hx; simp [scA] at hk)]
  have hq := hQ g1 hk1
  have hN1 := (hX.sc hk1).1.net
  obtain ⟨w1, w2, w3, -⟩ := way_ok hN1.1 (opn sh tk (pw (NT bv n) sh tk f t m)) ha hb
  unfold shA at hq
  refine ⟨fun he => br0 ?_, fun he => br1 (brT rfl (Sw_rowLength hN1 hrow (by omega) (fun p hp => (w3 p hp).1) ?_))⟩
  · rw [if_pos he] at hq; exact hq
  · rw [if_neg he] at hq; exact hq
theorem Sm_short {g g1 : Sg} {bv : Nat → Nat} {n : Nat} {sh : Int32} {tk hd m : Nat} {f t : Nat → Int32} {a b : Nat} {Q : Int32 → Sg → Prop} (hX : RelX g bv n sh tk hd m f t) (hk : Kp scA g g1) (hN : NM (NT bv n) g1) (hG : MG g1 (pw (NT bv n) sh tk f t m)) (ha : a < 8) (hb : b < 8) (hab : a ≠ b)
    (hQ : ∀ g', Kp scA g1 g' → NM (NT bv n) g' → MG g' (pw (NT bv n) sh tk f t m) → Q (shA (NT bv n) sh tk (pw (NT bv n) sh tk f t m) a b) g') : Cm_shortestOf (nI a) (nI b) (-1) g1 Q := by
  refine Vm_shortestOf (hX.mway hk hN hG ha hb hab (fun g2 hf2 hw => ?_))
  have hq := hQ g2 (Kp.w2 hf2 (fun _ => rfl) (fun _ => rfl)) (hN.of (by rw [hf2 34 (by decide) (by decide)]) (hf2 40 (by decide) (by decide))) ⟨by rw [hf2 34 (by decide) (by decide)]; exact hG.1, fun w hw hne => by rw [hf2 43 (by decide) (by decide)]; exact hG.2.1 w hw hne, fun p hp => by rw [hf2 44 (by decide) (by decide)]; exact hG.2.2 p hp⟩
  have w1 := (way_ok hN.1 (opn sh tk (pw (NT bv n) sh tk f t m)) ha hb).1
  unfold shA at hq
  refine ⟨fun he => brT rfl ?_, fun he h45 => brF (nI_m1 (by omega)) (brT rfl ⟨vp_in_nI (by omega) (by omega), ?_⟩)⟩
  · rw [if_pos he] at hq; exact hq
  · rw [if_neg he] at hq
    rw [nI_clamp (show a < 2 ^ 31 by omega), h45]
    exact hq
