/-! burns, scenes, cue -/
theorem and_off0 (x : Int32) : x &&& (0 ^^^ (-1)) = x := by
  refine b_ext (fun i hi => ?_)
  rw [b_and, b_xor, b_0, b_m1 i hi]
  simp
noncomputable def brn (f t : Nat → Int32) (P : Nat → Int32) (off : Int32) : Int32 := jn (wE f t (ly P &&& (off ^^^ (-1))) 16) 0
theorem RelX.wok {g : Sg} {bv : Nat → Nat} {n : Nat} {sh : Int32} {tk hd m : Nat} {f t : Nat → Int32} (h : RelX g bv n sh tk hd m f t) {k : Nat} (hk : k ≤ m) {ws : Int32} (hws : ∀ w, w < 16 → bt ws w = true → bt (ly (pw (NT bv n) sh tk f t k)) w = true) : wOK f t ws ∧ (∀ w, w < 16 → bt ws w = true → g 12 w = f w ∧ g 13 w = t w) ∧ (∀ w, w < 16 → bt ws w = true → g 42 (2 * w) = f w ∧ g 42 (2 * w + 1) = t w) := by
  obtain ⟨hC, hM, hSet, hSt, hB⟩ := h
  have key : ∀ w, w < 16 → bt ws w = true → w < m ∧ f w ≠ -1 := fun w hw hb => by
    have := pw_let k w ((ly_bt _ hw).mp (hws w hw hb))
    exact ⟨by omega, this.2⟩
  refine ⟨fun w hw hb => ?_, fun w hw hb => ?_, fun w hw hb => ?_⟩
  · obtain ⟨h1, h2⟩ := key w hw hb
    rcases (hSt.2.2.2 w h1).1 with h3 | ⟨a, b, ha, hb, -, hf, ht⟩
    · exact absurd h3.1 h2
    · exact ⟨a, b, ha, hb, hf, ht⟩
  · obtain ⟨-, q1, q2, -⟩ := hSt.2.2.2 w (key w hw hb).1
    exact ⟨q1, q2⟩
  · obtain ⟨-, -, -, q1, q2⟩ := hSt.2.2.2 w (key w hw hb).1
    exact ⟨q1, q2⟩
theorem and_sub {x y : Int32} {w : Nat} (h : bt (x &&& y) w = true) : bt x w = true := by
  rw [b_and] at h
  cases hx : bt x w
  · rw [hx] at h; cases h
  · rfl
theorem Sx_burns {g : Sg} {bv : Nat → Nat} {n : Nat} {sh : Int32} {tk hd m : Nat} {f t : Nat → Int32} {x1 : Int32} {Q : Int32 → Sg → Prop} (hX : RelX g bv n sh tk hd m f t) (h1 : 0 ≤ x1 ∧ x1 ≤ 65535) (hQ : Q (brn f t (pw (NT bv n) sh tk f t m) x1) g) : Cx_burns x1 g Q := by
  obtain ⟨hC, hM, hSet, hSt, hB⟩ := id hX
  have hm := hSt.2.2.1
  refine Vx_burns (brT h1 ?_)
  rw [hSt.1, nI_clamp (show m < 2 ^ 31 by omega), (hB m (Nat.le_refl m)).1]
  obtain ⟨w1, w2, -⟩ := hX.wok (Nat.le_refl m) (ws := ly (pw (NT bv n) sh tk f t m) &&& (x1 ^^^ (-1))) (fun w _ h => and_sub h)
  exact ⟨vp_in_nI (by omega) (by omega), Sb_joinedTo (e := 0) (by omega) w1 w2 hQ⟩
theorem Sm_burnsNow {g g1 : Sg} {bv : Nat → Nat} {n : Nat} {sh : Int32} {tk hd m : Nat} {f t : Nat → Int32} {x1 : Int32} {Q : Int32 → Sg → Prop} (hX : RelX g bv n sh tk hd m f t) (hk : Kp scA g g1) {k : Nat} (hkm : k ≤ m) (hG : g1 34 15 = ly (pw (NT bv n) sh tk f t k)) (hQ : Q (brn f t (pw (NT bv n) sh tk f t k) x1) g1) : Cm_burnsNow x1 g1 Q := by
  refine Vm_burnsNow ?_
  rw [hG]
  obtain ⟨w1, -, w3⟩ := (hX.sc hk).wok hkm (ws := ly (pw (NT bv n) sh tk f t k) &&& (x1 ^^^ (-1))) (fun w _ h => and_sub h)
  refine Sm_burnsBy w1 w3 (Or.inl rfl) (Or.inl rfl) ?_
  have e : jn (fun u v => wE f t (ly (pw (NT bv n) sh tk f t k) &&& (x1 ^^^ (-1))) 16 u v ∨ exE (-1) (-1) u v ∨ exE (-1) (-1) u v) 0 = brn f t (pw (NT bv n) sh tk f t k) x1 := jn_cg (fun u v => ⟨fun h => h.elim id (fun h => h.elim (fun q => absurd q exE_n) (fun q => absurd q exE_n)), Or.inl⟩) 0
  rw [e]
  exact hQ
theorem op_burns {x1 : Int32} {g : Sg} {Q : Int32 → Int32 → Sg → Prop} (hR : Rel g) (hQ : ∀ r g', Rel g' → Q r r g') : Cx_burns x1 g (fun r g1 => Cm_burns x1 g1 (fun r' g2 => Q r r' g2)) := by
  obtain ⟨⟨bv, n, sh, tk, hd, m, f, t, hX⟩, hJ, hSh⟩ := id hR
  by_cases h1 : 0 ≤ x1 ∧ x1 ≤ 65535
  · exact Sx_burns hX h1 (Vm_burns (hX.goesAll (fun g' hk _ hG _ _ => brT h1 (Sm_burnsNow hX hk (Nat.le_refl m) hG.1 (hQ _ _ (hR.sc hk))))))
  · exact Vx_burns (brF h1 (Vm_burns (hX.goesAll (fun g' hk _ _ _ _ => brF h1 (hQ _ _ (hR.sc hk))))))
theorem Sx_burningBehind {g : Sg} {bv : Nat → Nat} {n : Nat} {sh : Int32} {tk hd m : Nat} {f t : Nat → Int32} {k : Nat} {Q : Int32 → Sg → Prop} (hX : RelX g bv n sh tk hd m f t) (hk : k ≤ m) (hQ : Q (brn f t (pw (NT bv n) sh tk f t k) 0) g) : Cx_burningBehind (nI k) g Q := by
  obtain ⟨hC, hM, hSet, hSt, hB⟩ := id hX
  have hm := hSt.2.2.1
  refine Vx_burningBehind ⟨vp_in_nI (by omega) (by omega), ?_⟩
  rw [nI_clamp (show k < 2 ^ 31 by omega), (hB k hk).1]
  obtain ⟨w1, w2, -⟩ := hX.wok hk (ws := ly (pw (NT bv n) sh tk f t k)) (fun w _ h => h)
  unfold brn at hQ
  rw [and_off0] at hQ
  exact Sb_joinedTo (e := 0) (by omega) w1 w2 hQ
/-- the scenes that are so now -/
noncomputable def scn (S : Nat → Int32) (sc : Nat) (b : Int32) : Int32 := bsf sc (fun i => decide (S i = b))
theorem Sx_scenes {g : Sg} {bv : Nat → Nat} {n : Nat} {sh : Int32} {tk hd m : Nat} {f t : Nat → Int32} {k sc : Nat} {S : Nat → Int32} {Q : Int32 → Sg → Prop} (hX : RelX g bv n sh tk hd m f t) (hk : k ≤ m) (j3 : g 26 4 = nI sc) (hsc : sc ≤ 6) (hS : ∀ i, i < sc → g 29 i = S i) (hQ : Q (scn S sc (brn f t (pw (NT bv n) sh tk f t k) 0)) g) : Cx_scenes (nI k) g Q := by
  have hm := hX.2.2.2.1.2.2.1
  have h6 := hX.2.2.2.1.1
  have loop : ∀ (b : Int32), Q (scn S sc b) g → ∀ (d i : Nat), i + d = sc → Hx_scenes_22 b (scn S i b) (nI i) g Q := by
    intro b hq d
    induction d with
    | zero =>
      intro i hi
      have : i = sc := by omega
      subst this
      refine Vx_scenes_22 ?_
      rw [j3]
      exact brT (nI_le (Nat.le_refl _) (by omega)) hq
    | succ d ih =>
      intro i hi
      have h1 := ih (i + 1) (by omega)
      have e : scn S (i + 1) b = scn S i b ||| (if decide (S i = b) = true then sb (nI i) else 0) := rfl
      rw [e] at h1
      refine Vx_scenes_22 ?_
      rw [j3, nI_clamp (show i < 2 ^ 31 by omega), hS i (by omega), nI_1]
      refine brF (nI_ge (by omega) (by omega)) ⟨vp_in_nI (by omega) (by omega), fun hb => ?_, fun hb => ?_⟩
      · rw [if_pos (decide_eq_true hb)] at h1; exact h1
      · rw [if_neg (fun hx => hb (of_decide_eq_true hx)), Int32.or_zero] at h1; exact h1
  refine Vx_scenes ?_
  rw [h6]
  exact brT (rng' (by omega) hk) (Sx_burningBehind hX hk (loop _ hQ sc 0 (by omega)))
theorem Sm_scenesOf {g : Sg} {bv : Nat → Nat} {n : Nat} {sh : Int32} {tk hd m : Nat} {f t : Nat → Int32} {k sc : Nat} {S : Nat → Int32} {Q : Int32 → Sg → Prop} (hX : RelX g bv n sh tk hd m f t) (hk : k ≤ m) (j4 : g 34 28 = nI sc) (hsc : sc ≤ 6) (hS : ∀ i, i < sc → g 54 i = S i) (hQ : ∀ g', Kp scA g g' → NM (NT bv n) g' → MG g' (pw (NT bv n) sh tk f t k) → Q (scn S sc (brn f t (pw (NT bv n) sh tk f t k) 0)) g') : Cm_scenesOf (nI k) g Q := by
  refine Vm_scenesOf (hX.goes hk (fun g1 hk1 hN1 hG1 _ _ => Sm_burnsNow hX hk1 hk hG1.1 ?_))
  have hq := hQ g1 hk1 hN1 hG1
  have loop : ∀ (b : Int32), Q (scn S sc b) g1 → ∀ (d i : Nat), i + d = sc → Hm_scenesOf_16 b (scn S i b) (nI i) g1 Q := by
    intro b hq d
    induction d with
    | zero =>
      intro i hi
      have : i = sc := by omega
      subst this
      refine Vm_scenesOf_16 ?_
      rw [hk1 34 28 rfl, j4]
      exact brT (nI_le (Nat.le_refl _) (by omega)) hq
    | succ d ih =>
      intro i hi
      have h1 := ih (i + 1) (by omega)
      have e : scn S (i + 1) b = scn S i b ||| (if decide (S i = b) = true then sb (nI i) else 0) := rfl
      rw [e] at h1
      refine Vm_scenesOf_16 ?_
      rw [hk1 34 28 rfl, j4, nI_clamp (show i < 2 ^ 31 by omega), hk1 54 i rfl, hS i (by omega), nI_1]
      refine brF (nI_ge (by omega) (by omega)) ⟨vp_in_nI (by omega) (by omega), fun hb => ?_, fun hb => ?_⟩
      · rw [if_pos (decide_eq_true hb)] at h1; exact h1
      · rw [if_neg (fun hx => hb (of_decide_eq_true hx))] at h1; exact h1
  exact loop _ hq sc 0 (by omega)
theorem op_scenes {x1 : Int32} {g : Sg} {Q : Int32 → Int32 → Sg → Prop} (hR : Rel g) (hQ : ∀ r g', Rel g' → Q r r g') : Cx_scenes x1 g (fun r g1 => Cm_scenes x1 g1 (fun r' g2 => Q r r' g2)) := by
  obtain ⟨⟨bv, n, sh, tk, hd, m, f, t, hX⟩, hJ, hSh⟩ := id hR
  obtain ⟨mc, sc, hmc, hsc, j1, j2, j3, j4, -, hj⟩ := id hJ
  have hm := hX.2.2.2.1.2.2.1
  have h6 := hX.2.2.2.1.1
  have h11 := hX.2.2.2.1.2.1
  by_cases h1 : 0 ≤ x1 ∧ x1 ≤ nI m
  · obtain ⟨k, hk, rfl⟩ := rng (by omega) h1
    refine Sx_scenes hX hk j3 hsc (S := g 29) (fun i _ => rfl) (Vm_scenes ?_)
    rw [h11]
    exact brT h1 (Sm_scenesOf hX hk j4 hsc (fun i hi => (hj i hi).symm) (fun g' hk' _ _ => hQ _ _ (hR.sc hk')))
  · refine Vx_scenes ?_
    rw [h6]
    refine brF h1 (Vm_scenes ?_)
    rw [h11]
    exact brF h1 (hQ _ _ hR)
/-- the first number of steps behind which a scene is so -/
noncomputable def cuF (T : Nat → Prop) : Nat → Nat → Int32
  | 0, _ => -1
  | d + 1, k => by classical exact (if T k then nI k else cuF T d (k + 1))
theorem cuF_t {T : Nat → Prop} {d k : Nat} (h : T k) : cuF T (d + 1) k = nI k := by
  classical
  show (if T k then nI k else cuF T d (k + 1)) = _
  rw [if_pos h]
theorem cuF_f {T : Nat → Prop} {d k : Nat} (h : ¬ T k) : cuF T (d + 1) k = cuF T d (k + 1) := by
  classical
  show (if T k then nI k else cuF T d (k + 1)) = _
  rw [if_neg h]
theorem Sx_cue {g : Sg} {bv : Nat → Nat} {n : Nat} {sh : Int32} {tk hd m : Nat} {f t : Nat → Int32} {s sc : Nat} {S : Nat → Int32} {Q : Int32 → Sg → Prop} (hX : RelX g bv n sh tk hd m f t) (j3 : g 26 4 = nI sc) (hsc : sc ≤ 6) (hs : s < sc) (hS : ∀ i, i < sc → g 29 i = S i) (hQ : Q (cuF (fun k => S s = brn f t (pw (NT bv n) sh tk f t k) 0) (m + 1) 0) g) : Cx_cue (nI s) g Q := by
  have hm := hX.2.2.2.1.2.2.1
  have h6 := hX.2.2.2.1.1
  have loop : ∀ (d k : Nat), k + d = m + 1 → Q (cuF (fun k => S s = brn f t (pw (NT bv n) sh tk f t k) 0) d k) g → Hx_cue_22 (nI s) (nI k) g Q := by
    intro d
    induction d with
    | zero =>
      intro k hk hq
      refine Vx_cue_22 ?_
      rw [h6]
      exact brT (nI_lt (by omega) (by omega)) hq
    | succ d ih =>
      intro k hk hq
      refine Vx_cue_22 ?_
      rw [h6]
      refine brF (nI_nlt (by omega) (by omega)) (Sx_burningBehind hX (by omega) ⟨vp_in_nI (by omega) (by omega), ?_⟩)
      rw [nI_clamp (show s < 2 ^ 31 by omega), hS s hs, nI_1]
      refine ⟨fun hx => ?_, fun hx => ?_⟩
      · rw [cuF_t hx.symm] at hq; exact hq
      · rw [cuF_f (fun hy => hx hy.symm)] at hq; exact ih (k + 1) (by omega) hq
  refine Vx_cue ?_
  rw [j3, show nI sc - 1 = nI (sc - 1) from pk_sub (a := sc) (b := 1) (by omega)]
  exact brT (rng' (by omega) (by omega)) (loop (m + 1) 0 (by omega) hQ)
theorem scn_bt {S : Nat → Int32} {sc s : Nat} {b : Int32} (hsc : sc ≤ 6) (hs : s < sc) : bt (scn S sc b) s = true ↔ S s = b := by
  unfold scn
  rw [bsf_bt _ sc s (by omega)]
  simp [hs]
theorem Sm_cueOf {bv : Nat → Nat} {n : Nat} {sh : Int32} {tk hd m : Nat} {f t : Nat → Int32} {s sc : Nat} {S : Nat → Int32} {g0 : Sg} {Q : Int32 → Sg → Prop} (hX : RelX g0 bv n sh tk hd m f t) (j4 : g0 34 28 = nI sc) (hsc : sc ≤ 6) (hs : s < sc) (hS : ∀ i, i < sc → g0 54 i = S i) (hQ : ∀ g', Kp scA g0 g' → Q (cuF (fun k => S s = brn f t (pw (NT bv n) sh tk f t k) 0) (m + 1) 0) g') : Cm_cueOf (nI s) g0 Q := by
  have hm := hX.2.2.2.1.2.2.1
  have loop : ∀ (d k : Nat) (g : Sg), k + d = m + 1 → Kp scA g0 g → cuF (fun k => S s = brn f t (pw (NT bv n) sh tk f t k) 0) (m + 1) 0 = cuF (fun k => S s = brn f t (pw (NT bv n) sh tk f t k) 0) d k → Hm_cueOf_2 (nI s) (nI k) g Q := by
    intro d
    induction d with
    | zero =>
      intro k g hk hkp hq
      have h11 := (hX.sc hkp).2.2.2.1.2.1
      refine Vm_cueOf_2 ?_
      rw [h11]
      have hz := hQ g hkp
      rw [hq] at hz
      exact brT (nI_lt (by omega) (by omega)) hz
    | succ d ih =>
      intro k g hk hkp hq
      have h11 := (hX.sc hkp).2.2.2.1.2.1
      refine Vm_cueOf_2 ?_
      rw [h11]
      refine brF (nI_nlt (by omega) (by omega)) (Sm_scenesOf (hX.sc hkp) (by omega) ((hkp 34 28 rfl).trans j4) hsc (fun i hi => (hkp 54 i rfl).trans (hS i hi)) (fun g' hk' _ _ => ?_))
      rw [tbb_n _ (show s < 32 by omega), nI_1]
      refine ⟨fun hx => ?_, fun hx => ?_⟩
      · rw [cuF_t (T := fun k => S s = brn f t (pw (NT bv n) sh tk f t k) 0) (d := d) (k := k) ((scn_bt hsc hs).mp hx)] at hq
        have hz := hQ g' (hkp.tr hk')
        rw [hq] at hz
        exact hz
      · rw [cuF_f (T := fun k => S s = brn f t (pw (NT bv n) sh tk f t k) 0) (d := d) (k := k) (fun hy => hx ((scn_bt hsc hs).mpr hy))] at hq
        exact ih (k + 1) g' (by omega) (hkp.tr hk') hq
  exact Vm_cueOf (loop (m + 1) 0 g0 (by omega) (Kp.rf _ _) rfl)
theorem below1 {x : Int32} {sc : Nat} (hsc : sc ≤ 60) (h : 0 ≤ x ∧ x ≤ nI sc - 1) : ∃ s : Nat, s < sc ∧ x = nI s := by
  have hpos : 1 ≤ sc := by
    rcases Nat.eq_zero_or_pos sc with h0 | h0
    · rw [h0] at h; exact absurd (Int32.le_trans h.1 h.2) (by decide)
    · exact h0
  rw [show nI sc - 1 = nI (sc - 1) from pk_sub (a := sc) (b := 1) hpos] at h
  obtain ⟨s, h1, h2⟩ := rng (by omega) h
  exact ⟨s, by omega, h2⟩
theorem op_cue {x1 : Int32} {g : Sg} {Q : Int32 → Int32 → Sg → Prop} (hR : Rel g) (hQ : ∀ r g', Rel g' → Q r r g') : Cx_cue x1 g (fun r g1 => Cm_cue x1 g1 (fun r' g2 => Q r r' g2)) := by
  obtain ⟨⟨bv, n, sh, tk, hd, m, f, t, hX⟩, hJ, hSh⟩ := id hR
  obtain ⟨mc, sc, hmc, hsc, j1, j2, j3, j4, -, hj⟩ := id hJ
  by_cases h1 : 0 ≤ x1 ∧ x1 ≤ nI sc - 1
  · obtain ⟨s, hs, rfl⟩ := below1 (by omega) h1
    refine Sx_cue hX j3 hsc hs (S := g 29) (fun i _ => rfl) (Vm_cue ?_)
    rw [j4]
    exact brT h1 (Sm_cueOf hX j4 hsc hs (fun i hi => (hj i hi).symm) (fun g' hk' => hQ _ _ (hR.sc hk')))
  · refine Vx_cue ?_
    rw [j3]
    refine brF h1 (Vm_cue ?_)
    rw [j4]
    exact brF h1 (hQ _ _ hR)
