/-! digest -/
abbrev mx (h : Int64) (r : Int32) : Int64 := 31 * h + Int32.toInt64 r
def fld (F : Nat → Int64 → Int64) : Nat → Int64 → Int64
  | 0, h => h
  | k + 1, h => F k (fld F k h)
/-- what pipe answers -/
def ppV (N : Net) (P : Nat → Int32) (p k : Nat) : Nat := if k = 0 then nA N p else if k = 1 then nB N p else if k = 2 then nL N p else if k = 3 then nD N p else ld P p
def pmx (N : Net) (P : Nat → Int32) (p : Nat) : Nat → Int64 → Int64 := fld (fun k h => mx h (nI (ppV N P p k)))
noncomputable def dg1 (N : Net) (n : Nat) (fl fn : Int32) (m d : Nat) (P : Nat → Int32) (mc sc : Nat) (lt : Int32) : Int64 := mx (mx (fld (fun k h => mx h (cnt N n m d P mc sc lt (nI k))) 8 17) fl) fn
def dg2 (N : Net) (P : Nat → Int32) (h : Int64) : Int64 := fld (fun p h => pmx N P p 5 h) N.1 h
def wmx (N : Net) (hd : Nat) (P : Nat → Int32) (w : Nat) (h : Int64) : Int64 := mx (mx (mx h (P w)) (if P w = 0 then -3 else outA P w)) (dI (fdy N hd (P w)))
def dg3 (N : Net) (hd : Nat) (P : Nat → Int32) (h : Int64) : Int64 := fld (wmx N hd P) 16 h
noncomputable def dg4 (N : Net) (tk hd : Nat) (f t P : Nat → Int32) (h : Int64) : Int64 := mx (mx (mx (mx (mx (mx h (ly P)) (ful tk P N.1)) (rsn (snw (fun w => fdy N hd (P w)) 16))) (lftA P (fun w => fdy N hd (P w)) 9 16)) (brn f t P 0)) (brn f t P 5)
noncomputable def emx (N : Net) (sh : Int32) (tk : Nat) (P : Nat → Int32) (k : Nat) (h : Int64) : Int64 := mx (mx (mx (mx h (shA N sh tk P 0 (k + 1))) (mst N sh tk P 0 (k + 1) 0)) (mst N sh tk P 0 (k + 1) 1)) (hrd N sh 0 3 (nI (k + 1)))
noncomputable def dg5 (N : Net) (sh : Int32) (tk : Nat) (P : Nat → Int32) (h : Int64) : Int64 := fld (emx N sh tk P) 7 h
noncomputable def dg6 (N : Net) (sh : Int32) (tk m : Nat) (f t P : Nat → Int32) (sc : Nat) (S : Nat → Int32) (li : Int32) (L : Int32 × Int32 × Int32) (h : Int64) : Int64 :=
  mx (mx (mx (mx (mx (mx (mx (mx h L.1) L.2.1) L.2.2) (hrd N sh 0 4 (-1))) (nI (stl N sh 9 7 0))) li) (scn S sc (brn f t P 0))) (if sc = 0 then -2 else cuF (fun k => S 0 = brn f t (pw N sh tk f t k) 0) (m + 1) 0)
noncomputable def dgA (N : Net) (n : Nat) (fl sh : Int32) (tk hd m : Nat) (f t : Nat → Int32) (mc sc : Nat) (S : Nat → Int32) (lt li : Int32) : Int64 :=
  dg6 N sh tk m f t (pw N sh tk f t m) sc S li (litA N sh tk (ld (pw N sh tk f t m)) (wE f t (ly (pw N sh tk f t m)) 16) 14) (dg5 N sh tk (pw N sh tk f t m) (dg4 N tk hd f t (pw N sh tk f t m) (dg3 N hd (pw N sh tk f t m) (dg2 N (pw N sh tk f t m) (dg1 N n fl (fnd N sh tk f t m) m (dn N sh tk f t m) (pw N sh tk f t m) mc sc lt)))))
theorem Sx_pipeH {g : Sg} {bv : Nat → Nat} {n : Nat} {sh : Int32} {tk hd m : Nat} {f t : Nat → Int32} {p k : Nat} {Q : Int32 → Sg → Prop} (hX : RelX g bv n sh tk hd m f t) (hp : p < (NT bv n).1) (hk : k < 5) (hQ : Q (nI (ppV (NT bv n) (pw (NT bv n) sh tk f t m) p k)) g) : Cx_pipe (nI p) (nI k) g Q := by
  have hpc := hX.pc (Nat.le_refl m)
  obtain ⟨hC, hM, hSet, hSt, hB⟩ := id hX
  have hm := hSt.2.2.1
  have hnet := hC.net
  have hN16 := hnet.1.1
  have h3 := hnet.2.2 p hp
  have i16 : vp_in (nI p) 16 := vp_in_nI (by omega) (by omega)
  refine Vx_pipe ?_
  rw [hnet.2.1, show nI (NT bv n).1 - 1 = nI ((NT bv n).1 - 1) from pk_sub (a := (NT bv n).1) (b := 1) (by omega), nI_toInt (show k < 2 ^ 31 by omega), nI_clamp (show p < 2 ^ 31 by omega), hSt.1, nI_clamp (show m < 2 ^ 31 by omega)]
  have c : ∀ j : Nat, j < 5 → nI k = nI j → k = j := fun j hj h => (nI_eq (by omega) (by omega)).mp h
  refine brT (rng' (by omega) (by omega)) ⟨fun h => by omega, fun h => ⟨i16, ?_⟩, fun h => ⟨i16, ?_⟩, fun h => ⟨i16, ?_⟩, fun h => ⟨i16, ?_⟩, fun h => ⟨vp_in_nI (by omega) (by omega), Sb_wiresIn (show p < 16 by omega) ?_⟩⟩
  · have := c 0 (by omega) h; subst this; rw [h3.1]; exact hQ
  · have := c 1 (by omega) h; subst this; rw [h3.2.1]; exact hQ
  · have := c 2 (by omega) h; subst this; rw [h3.2.2.1]; exact hQ
  · have := c 3 (by omega) h; subst this; rw [h3.2.2.2]; exact hQ
  · have := c 4 (by omega) h; subst this; rw [ld_congr (R := pw (NT bv n) sh tk f t m) hpc]; exact hQ
theorem Sx_mixPipes {g : Sg} {bv : Nat → Nat} {n : Nat} {sh : Int32} {tk hd m : Nat} {f t : Nat → Int32} {h : Int64} {Q : Int64 → Sg → Prop} (hX : RelX g bv n sh tk hd m f t) (hQ : Q (dg2 (NT bv n) (pw (NT bv n) sh tk f t m) h) g) : Cx_mixPipes h g Q := by
  have hnet := hX.1.net
  have hN16 := hnet.1.1
  have loop : ∀ (d p : Nat), p + d = (NT bv n).1 → Hx_mixPipes_5 (fld (fun p h => pmx (NT bv n) (pw (NT bv n) sh tk f t m) p 5 h) p h) (nI p) g Q := by
    intro d
    induction d with
    | zero =>
      intro p hp
      have hpn : p = (NT bv n).1 := by omega
      refine Vx_mixPipes_5 ?_
      rw [hnet.2.1, hpn]
      exact brT (nI_le (Nat.le_refl _) (by omega)) hQ
    | succ d ih =>
      intro p hp
      have hpn : p < (NT bv n).1 := by omega
      refine Vx_mixPipes_5 ?_
      rw [hnet.2.1]
      refine brF (nI_ge hpn (by omega)) ?_
      have inn : ∀ (c k : Nat), k + c = 5 → Hx_mixPipes_20 (pmx (NT bv n) (pw (NT bv n) sh tk f t m) p k (fld (fun p h => pmx (NT bv n) (pw (NT bv n) sh tk f t m) p 5 h) p h)) (nI p) (nI k) g Q := by
        intro c
        induction c with
        | zero =>
          intro k hk
          have : k = 5 := by omega
          subst this
          refine Vx_mixPipes_20 (brT (by decide) ?_)
          rw [nI_1]
          exact ih (p + 1) (by omega)
        | succ c ih2 =>
          intro k hk
          refine Vx_mixPipes_20 (brF (fun hx => ?_) (Sx_pipeH hX hpn (by omega) ?_))
          · have : 4 < k := (nI_ltI (a := 4) (by omega) (by omega)).mp hx
            omega
          · rw [nI_1]
            exact ih2 (k + 1) (by omega)
      exact inn 5 0 (by omega)
  exact Vx_mixPipes (loop (NT bv n).1 0 (by omega))
theorem Sx_mixWires {g : Sg} {bv : Nat → Nat} {n : Nat} {sh : Int32} {tk hd m : Nat} {f t : Nat → Int32} {h : Int64} {Q : Int64 → Sg → Prop} (hX : RelX g bv n sh tk hd m f t) (hQ : Q (dg3 (NT bv n) hd (pw (NT bv n) sh tk f t m) h) g) : Cx_mixWires h g Q := by
  have hpc := hX.pc (Nat.le_refl m)
  obtain ⟨hC, hM, hSet, hSt, hB⟩ := id hX
  have hm := hSt.2.2.1
  have hnet := hC.net
  obtain ⟨-, -, -, -, -, -, -, s8, s2, sl, su⟩ := hSet
  have loop : ∀ (d w : Nat), w + d = 16 → Hx_mixWires_5 (fld (wmx (NT bv n) hd (pw (NT bv n) sh tk f t m)) w h) (nI w) g Q := by
    intro d
    induction d with
    | zero =>
      intro w hw
      have h16 : w = 16 := by omega
      subst h16
      exact Vx_mixWires_5 (brT (by decide) hQ)
    | succ d ih =>
      intro w hw
      refine Vx_mixWires_5 (brF (fun hx => ?_) ?_)
      · have := (nI_leI (a := 16) (b := w) (by omega) (by omega)).mp hx
        omega
      rw [hSt.1]
      refine Vx_wire ?_
      rw [hSt.1]
      refine brT (rng' (by omega) (Nat.le_refl m)) (brT (isW_n (by omega)) ⟨vp_in_nI (by omega) (by omega), vp_in_nI (by omega) (by omega), ?_⟩)
      have e1 : (if tbb (g 14 (nI m).toNatClampNeg) (nI w) = true then g 15 (nI w).toNatClampNeg else 0) = pw (NT bv n) sh tk f t m w := by
        rw [nI_clamp (show m < 2 ^ 31 by omega), nI_clamp (show w < 2 ^ 31 by omega), tbb_n _ (show w < 32 by omega)]
        exact hpc w (by omega)
      rw [e1]
      refine Sx_out hX (by omega) (Vx_fails (brT (isW_n (by omega)) ?_))
      rw [hSt.1, nI_clamp (show m < 2 ^ 31 by omega)]
      refine ⟨vp_in_nI (by omega) (by omega), Sx_failingDay hnet s8 sl su (by omega) ?_⟩
      rw [hpc w (by omega), nI_1]
      exact ih (w + 1) (by omega)
  exact Vx_mixWires (loop 16 0 (by omega))
theorem Sx_mixEnds {g0 : Sg} {bv : Nat → Nat} {n : Nat} {sh : Int32} {tk hd m : Nat} {f t : Nat → Int32} {h : Int64} {Q : Int64 → Sg → Prop} (hX : RelX g0 bv n sh tk hd m f t) (hQ : ∀ g', Kp scA g0 g' → Q (dg5 (NT bv n) sh tk (pw (NT bv n) sh tk f t m) h) g') : Cx_mixEnds h g0 Q := by
  have loop : ∀ (d k : Nat) (g : Sg), k + d = 7 → Kp scA g0 g → Hx_mixEnds_5 (fld (emx (NT bv n) sh tk (pw (NT bv n) sh tk f t m)) k h) (nI (k + 1)) g Q := by
    intro d
    induction d with
    | zero =>
      intro k g hk hkp
      have h7 : k = 7 := by omega
      subst h7
      exact Vx_mixEnds_5 (brT (by decide) (hQ g hkp))
    | succ d ih =>
      intro k g hk hkp
      refine Vx_mixEnds_5 (brF (fun hx => ?_) ?_)
      · have := (nI_leI (a := 8) (b := k + 1) (by omega) (by omega)).mp hx
        omega
      have hX1 := hX.sc hkp
      refine Sx_short (a := 0) (b := k + 1) hX1 (by omega) (by omega) (by omega) (fun g1 hk1 => ?_)
      refine Sx_most (a := 0) (b := k + 1) (hX1.sc hk1) (by omega) (by omega) (by omega) (by decide) (fun g2 hk2 => ?_)
      refine Sx_most (a := 0) (b := k + 1) ((hX1.sc hk1).sc hk2) (by omega) (by omega) (by omega) (by decide) (fun g3 hk3 => ?_)
      refine Sx_heard (fr := 0) (bl := 3) (((hX1.sc hk1).sc hk2).sc hk3) (by omega) (by omega) ⟨Int32.le_trans (show (-1 : Int32) ≤ 0 by decide) (nI_pos' (by omega)), (rng' (n := 7) (by omega) (show k + 1 ≤ 7 by omega)).2⟩ (fun g4 hk4 => ?_)
      rw [nI_1]
      exact ih (k + 1) g4 (by omega) ((((hkp.tr hk1).tr hk2).tr hk3).tr hk4)
  exact Vx_mixEnds (loop 7 0 g0 (by omega) (Kp.rf _ _))
theorem Sx_digest {g : Sg} {bv : Nat → Nat} {n : Nat} {sh : Int32} {tk hd m : Nat} {f t : Nat → Int32} {mc sc : Nat} {Q : Int64 → Sg → Prop} (hX : RelX g bv n sh tk hd m f t) (hmc : mc ≤ 8) (hsc : sc ≤ 6) (j1 : g 26 3 = nI mc) (j3 : g 26 4 = nI sc)
    (hj : ∀ i, i < mc → ∃ w a b : Nat, w < 16 ∧ a < 8 ∧ b < 8 ∧ a ≠ b ∧ g 27 i = nI w ∧ g 28 i = sb (nI a) ||| sb (nI b) ∧ g 53 (3 * i) = nI w ∧ g 53 (3 * i + 1) = nI a ∧ g 53 (3 * i + 2) = nI b)
    (hQ : ∀ g', Kp scA g g' → Q (dgA (NT bv n) n (flt bv n) sh tk hd m f t mc sc (g 29) (g 30 3) (bsf mc (fun i => !lieT g (pw (NT bv n) sh tk f t m) i))) g') : Cx_digest g Q := by
  obtain ⟨hC, hM, hSet, hSt, hB⟩ := id hX
  have hm := hSt.2.2.1
  have hnet := hC.net
  have hpc := hX.pc (Nat.le_refl m)
  have loop : ∀ (d k : Nat), k + d = 8 → Hx_digest_6 (fld (fun k h => mx h (cnt (NT bv n) n m (dn (NT bv n) sh tk f t m) (pw (NT bv n) sh tk f t m) mc sc (g 30 3) (nI k))) k 17) (nI k) g Q := by
    intro d
    induction d with
    | zero =>
      intro k hk
      have h8 : k = 8 := by omega
      subst h8
      refine Vx_digest_6 (brT (by decide) (Vx_fault ?_))
      rw [hC.2.2.2.2.2.1]
      refine Vx_judged (Sb_firstNotDone hm hSt.1 hB (Sx_mixPipes hX (Sx_mixWires hX ?_)))
      rw [hSt.1]
      refine Vx_state ?_
      rw [hSt.1, nI_clamp (show m < 2 ^ 31 by omega)]
      refine brT (rng' (by omega) (Nat.le_refl m)) (brT rfl ⟨vp_in_nI (by omega) (by omega), ?_⟩)
      rw [(hB m (Nat.le_refl m)).1]
      refine Vx_state ?_
      rw [hSt.1, nI_clamp (show m < 2 ^ 31 by omega)]
      refine brT (rng' (by omega) (Nat.le_refl m)) (brF (by decide) (brT rfl ⟨vp_in_nI (by omega) (by omega), Sb_fullPipes (N := NT bv n) (P := pw (NT bv n) sh tk f t m) (tk := tk) hnet.1.1 hnet.2.1 hSet.2.2.2.1 hSet.2.2.2.2.2.2.1 hpc ?_⟩))
      obtain ⟨-, -, -, -, -, -, -, s8, s2, sl, su⟩ := id hSet
      have hF : ∀ w, fdy (NT bv n) hd (pw (NT bv n) sh tk f t m w) ≤ 999 := fun w => Nat.le_trans (fdy_le _ sl _) su
      refine Vx_soonest ?_
      rw [hSt.1, nI_clamp (show m < 2 ^ 31 by omega)]
      refine ⟨vp_in_nI (by omega) (by omega), snC (F := fun w => fdy (NT bv n) hd (pw (NT bv n) sh tk f t m w)) hF (fun w Q' hw hq => Sx_failingDay hnet s8 sl su hw (by rw [hpc w hw]; exact hq)) ?_ 16 0 (by omega)⟩
      refine Sx_left (y := 9) hX (by omega) (Sx_burns hX (by decide) (Sx_burns hX (by decide) (Sx_mixEnds hX (fun g1 hk1 => ?_))))
      have hX1 := hX.sc hk1
      refine Sl_seek hX1 (fun g2 hk2 he2 => ?_)
      have hX2 := hX1.sc hk2
      refine Sx_heard (fr := 0) (bl := 4) hX2 (by omega) (by omega) (by decide) (fun g3 hk3 => ?_)
      have hX3 := hX2.sc hk3
      have hk03 := (hk1.tr hk2).tr hk3
      refine Sx_drowsy (e := 0) (k := 9) hX3 (by omega) (by omega) ?_
      refine Sx_lies (mc := mc) hX3 hmc ((hk03 26 3 rfl).trans j1) (fun i hi => ?_) ?_
      · rw [hk03.cell 27 (fun _ => rfl), hk03.cell 28 (fun _ => rfl), hk03.cell 53 (fun _ => rfl)]; exact hj i hi
      have hS3 : ∀ i, i < sc → g3 29 i = g 29 i := fun i _ => by rw [hk03.cell 29 (fun _ => rfl)]
      rw [hX3.2.2.2.1.1]
      refine Sx_scenes (S := g 29) hX3 (Nat.le_refl m) ((hk03 26 4 rfl).trans j3) hsc hS3 ?_
      have el : lieT g3 (pw (NT bv n) sh tk f t m) = lieT g (pw (NT bv n) sh tk f t m) := by
        funext i
        unfold lieT
        rw [hk03.cell 27 (fun _ => rfl), hk03.cell 28 (fun _ => rfl), hk03.cell 12 (fun _ => rfl), hk03.cell 13 (fun _ => rfl)]
      rw [el]
      have hz := hQ g3 hk03
      unfold dgA dg6 dg4 dg1 at hz
      rw [← he2] at hz
      by_cases hs0 : sc = 0
      · rw [if_pos hs0] at hz
        refine Vx_cue ?_
        rw [hk03 26 4 rfl, j3]
        exact brF (by rw [hs0]; decide) hz
      · rw [if_neg hs0] at hz
        exact Sx_cue (s := 0) (S := g 29) hX3 ((hk03 26 4 rfl).trans j3) hsc (by omega) hS3 hz
    | succ d ih =>
      intro k hk
      refine Vx_digest_6 (brF (fun hx => ?_) (Sx_count hX j1 j3 ?_))
      · have : 7 < k := (nI_ltI (a := 7) (by omega) (by omega)).mp hx
        omega
      · rw [nI_1]
        exact ih (k + 1) (by omega)
  exact Vx_digest (loop 8 0 (by omega))
