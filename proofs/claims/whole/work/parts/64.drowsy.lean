/-! drowsy -/
def chB (N : Net) (sh : Int32) (e p : Nat) : Bool := !bt sh p && decide (nA N p = e ∨ nB N p = e)
def nch (N : Net) (sh : Int32) (e : Nat) : Nat → Nat → Nat
  | 0, _ => 0
  | d + 1, p => b1 (chB N sh e p) + nch N sh e d (p + 1)
def beh (N : Net) (sh : Int32) (e : Nat) : Nat → Nat → Nat → Nat
  | 0, _, _ => e
  | d + 1, p, r => if chB N sh e p = true then (if r = 0 then opp N p e else beh N sh e d (p + 1) (r - 1)) else beh N sh e d (p + 1) r
def lot (x : Int32) : Int32 := (1103515245 * x) + 12345
def lotN (x : Int32) : Nat := (lot x).toBitVec.toNat / 65536
def stl (N : Net) (sh : Int32) : Nat → Int32 → Nat → Nat
  | 0, _, e => e
  | n + 1, x, e => if nch N sh e N.1 0 = 0 then stl N sh n x e else stl N sh n (lot x) (beh N sh e N.1 0 (lotN x % nch N sh e N.1 0))
theorem stl_0 {N : Net} {sh : Int32} {e : Nat} (h : nch N sh e N.1 0 = 0) : ∀ (n : Nat) (x : Int32), stl N sh n x e = e := by
  intro n
  induction n with
  | zero => intro x; rfl
  | succ n ih =>
    intro x
    show (if _ then _ else _) = e
    rw [if_pos h]
    exact ih x
theorem nch_le {N : Net} {sh : Int32} {e : Nat} : ∀ d p : Nat, nch N sh e d p ≤ d := by
  intro d
  induction d with
  | zero => intro p; exact Nat.le_refl _
  | succ d ih =>
    intro p
    have h1 := ih (p + 1)
    have h2 := b1_le (chB N sh e p)
    show b1 _ + nch N sh e d (p + 1) ≤ d + 1
    omega
theorem beh_lt {N : Net} (hN : netOK N) {sh : Int32} {e : Nat} (he : e < 8) : ∀ d p r : Nat, p + d = N.1 → beh N sh e d p r < 8 := by
  intro d
  induction d with
  | zero => intro p r _; exact he
  | succ d ih =>
    intro p r hp
    show (if _ then _ else _) < 8
    split
    · split
      · exact opp_lt hN e (by omega)
      · exact ih (p + 1) (r - 1) (by omega)
    · exact ih (p + 1) r (by omega)
theorem ush16 (x : Int32) : (Int32.toUInt32 x >>> (Int32.toUInt32 16 &&& Int32.toUInt32 31)).toInt32 = nI (x.toBitVec.toNat / 65536) := by
  have hx : x = nI x.toBitVec.toNat := by
    apply Int32.toBitVec_inj.mp
    rw [nI_bv, BitVec.ofNat_toNat]
    simp
  have h := pk_ushrN (n := x.toBitVec.toNat) x.toBitVec.isLt 16 16 (by decide)
  rw [← hx] at h
  exact h
theorem lot_r {x : Int32} {c : Nat} (hc0 : 0 < c) (hc : c < 2 ^ 31) : (Int32.toUInt32 ((1103515245 * x) + 12345) >>> (Int32.toUInt32 16 &&& Int32.toUInt32 31)).toInt32 - (Int32.toUInt32 ((1103515245 * x) + 12345) >>> (Int32.toUInt32 16 &&& Int32.toUInt32 31)).toInt32 / nI c * nI c = nI (lotN x % c) := by
  rw [ush16]
  have : ((1103515245 * x) + 12345).toBitVec.toNat < 2 ^ 32 := ((1103515245 * x) + 12345).toBitVec.isLt
  exact pk_rem (by omega) hc0 hc
theorem ch_t {N : Net} {g : Sg} {sh : Int32} {e p : Nat} (hN : NC N g) (h9 : g 1 9 = sh) (hp : p < N.1) (he : e < 8) : (tbb (g 1 9) (nI p) = false ∧ (g 3 (nI p).toNatClampNeg = nI e ∨ g 4 (nI p).toNatClampNeg = nI e)) ↔ chB N sh e p = true := by
  have h16 := hN.1.1
  obtain ⟨q1, q2, -⟩ := hN.1.2 p hp
  rw [h9, tbb_n _ (show p < 32 by omega), nI_clamp (show p < 2 ^ 31 by omega), (hN.2.2 p hp).1, (hN.2.2 p hp).2.1, nI_eq (by omega) (by omega), nI_eq (by omega) (by omega)]
  unfold chB
  simp
theorem Sr_choicesAt {N : Net} {g : Sg} {sh : Int32} {e : Nat} {Q : Int32 → Sg → Prop} (hN : NC N g) (h9 : g 1 9 = sh) (he : e < 8) (hQ : Q (nI (nch N sh e N.1 0)) g) : Cr_choicesAt (nI e) g Q := by
  have h16 := hN.1.1
  have loop : ∀ (d p c : Nat), p + d = N.1 → Q (nI (c + nch N sh e d p)) g → Hr_choicesAt_4 (nI e) (nI c) (nI p) g Q := by
    intro d
    induction d with
    | zero =>
      intro p c hp hq
      have hpn : p = N.1 := by omega
      refine Vr_choicesAt_4 ?_
      rw [hN.2.1, hpn]
      exact brT (nI_le (Nat.le_refl _) (by omega)) hq
    | succ d ih =>
      intro p c hp hq
      have e1 : nch N sh e (d + 1) p = b1 (chB N sh e p) + nch N sh e d (p + 1) := rfl
      rw [e1] at hq
      refine Vr_choicesAt_4 ?_
      rw [ch_t hN h9 (show p < N.1 by omega) he, hN.2.1, nI_1, nI_1]
      refine brF (nI_ge (show p < N.1 by omega) (by omega)) ⟨vp_in_nI (by omega) (by omega), fun hx => ?_, fun hx => ?_⟩
      · rw [hx] at hq
        refine ih (p + 1) (c + 1) (by omega) ?_
        rw [Nat.add_assoc]; exact hq
      · have hx' : chB N sh e p = false := by simpa using hx
        rw [hx'] at hq
        refine ih (p + 1) c (by omega) ?_
        have : c + (b1 false + nch N sh e d (p + 1)) = c + nch N sh e d (p + 1) := by show c + (0 + _) = _; omega
        rw [this] at hq; exact hq
  refine Vr_choicesAt (loop N.1 0 0 (by omega) ?_)
  rw [Nat.zero_add]; exact hQ
theorem Sr_behindChoice {N : Net} {g : Sg} {sh : Int32} {e r : Nat} {Q : Int32 → Sg → Prop} (hN : NC N g) (h9 : g 1 9 = sh) (he : e < 8) (hr : r < 2 ^ 31) (hQ : Q (nI (beh N sh e N.1 0 r)) g) : Cr_behindChoice (nI e) (nI r) g Q := by
  have h16 := hN.1.1
  have loop : ∀ (d p r : Nat), p + d = N.1 → r < 2 ^ 31 → Q (nI (beh N sh e d p r)) g → Hr_behindChoice_5 (nI e) (nI r) (nI p) g Q := by
    intro d
    induction d with
    | zero =>
      intro p r hp hr hq
      have hpn : p = N.1 := by omega
      refine Vr_behindChoice_5 ?_
      rw [hN.2.1, hpn]
      exact brT (nI_le (Nat.le_refl _) (by omega)) hq
    | succ d ih =>
      intro p r hp hr hq
      have hpn : p < N.1 := by omega
      obtain ⟨q1, q2, -⟩ := hN.1.2 p hpn
      have e1 : beh N sh e (d + 1) p r = (if chB N sh e p = true then (if r = 0 then opp N p e else beh N sh e d (p + 1) (r - 1)) else beh N sh e d (p + 1) r) := rfl
      rw [e1] at hq
      refine Vr_behindChoice_5 ?_
      rw [ch_t hN h9 hpn he, hN.2.1, nI_1]
      have i16 : vp_in (nI p) 16 := vp_in_nI (by omega) (by omega)
      refine brF (nI_ge hpn (by omega)) ⟨i16, fun hx => ⟨fun h0 => ⟨i16, ?_⟩, fun h0 => ?_⟩, fun hx => ?_⟩
      · have hr0 : r = 0 := (nI_eq (b := 0) hr (by omega)).mp h0
        rw [if_pos hx, if_pos hr0] at hq
        rw [nI_clamp (show p < 2 ^ 31 by omega), (hN.2.2 p hpn).1, (hN.2.2 p hpn).2.1, if_nI (by omega) (by omega)]
        exact hq
      · have hr0 : r ≠ 0 := fun q => h0 (by rw [q]; rfl)
        rw [if_pos hx, if_neg hr0] at hq
        have e2 : nI r + (-1) = nI (r - 1) := by
          have := pk_m1 (r - 1)
          rw [show r - 1 + 1 = r by omega] at this
          exact this
        rw [e2]
        exact ih (p + 1) (r - 1) (by omega) (by omega) hq
      · rw [if_neg hx] at hq
        exact ih (p + 1) r (by omega) hr hq
  exact Vr_behindChoice (loop N.1 0 r (by omega) hr hQ)
theorem Sr_stroll {N : Net} {g : Sg} {sh : Int32} {e k : Nat} {x : Int32} {Q : Int32 → Sg → Prop} (hN : NC N g) (h9 : g 1 9 = sh) (he : e < 8) (hk : k ≤ 20) (hQ : Q (nI (stl N sh k x e)) g) : Cr_stroll x (nI e) (nI k) g Q := by
  have h16 := hN.1.1
  have loop : ∀ (d i e : Nat) (x : Int32), i + d = k → e < 8 → Q (nI (stl N sh d x e)) g → Hr_stroll_9 (nI k) x (nI e) (nI i) g Q := by
    intro d
    induction d with
    | zero =>
      intro i e x hi he hq
      have : i = k := by omega
      subst this
      exact Vr_stroll_9 (brT (nI_le (Nat.le_refl _) (by omega)) hq)
    | succ d ih =>
      intro i e x hi he hq
      have hc := nch_le (N := N) (sh := sh) (e := e) N.1 0
      refine Vr_stroll_9 (brF (nI_ge (by omega) (by omega)) (Sr_choicesAt hN h9 he ⟨fun h0 => ?_, fun h0 => ?_⟩))
      · have hpos : 0 < nch N sh e N.1 0 := (nI_ltI (a := 0) (by omega) (by omega)).mp h0
        refine ⟨fun hz => ?_, ?_⟩
        · have := (nI_eq (b := 0) (show nch N sh e N.1 0 < 2 ^ 31 by omega) (by omega)).mp hz
          omega
        · rw [lot_r hpos (by omega)]
          have hlt := Nat.mod_lt (lotN x) hpos
          refine Sr_behindChoice hN h9 he (by omega) ?_
          rw [nI_1]
          refine ih (i + 1) _ _ (by omega) (beh_lt hN.1 he _ _ _ (by omega)) ?_
          have e1 : stl N sh (d + 1) x e = (if nch N sh e N.1 0 = 0 then stl N sh d x e else stl N sh d (lot x) (beh N sh e N.1 0 (lotN x % nch N sh e N.1 0))) := rfl
          rw [e1, if_neg (by omega)] at hq
          exact hq
      · have hz : nch N sh e N.1 0 = 0 := by
          rcases Nat.eq_zero_or_pos (nch N sh e N.1 0) with h | h
          · exact h
          · exact absurd ((nI_ltI (a := 0) (by omega) (by omega)).mpr h) h0
        rw [stl_0 hz] at hq
        exact hq
  exact Vr_stroll (loop k 0 e x (by omega) he hQ)
theorem Sm_drowsyOf {N : Net} {g : Sg} {sh : Int32} {e k : Nat} {x : Int32} {Q : Int32 → Sg → Prop} (hN : NM N g) (h41 : g 41 0 = sh) (he : e < 8) (hk : k ≤ 20) (hQ : Q (nI (stl N sh k x e)) g) : Cm_drowsyOf x (nI e) (nI k) g Q := by
  have h16 := hN.1.1
  have ch : ∀ (e p : Nat), e < 8 → p < N.1 → (chB N sh e p = true → bt sh p = false ∧ mOth g (nI p) (nI e) = nI (opp N p e)) ∧ (¬ chB N sh e p = true → bt sh p = true ∨ (bt sh p = false ∧ mOth g (nI p) (nI e) = -1)) := by
    intro e p he hp
    unfold chB
    cases hb : bt sh p
    · by_cases ht : tch N p e
      · have ht' : nA N p = e ∨ nB N p = e := ht
        exact ⟨fun _ => ⟨rfl, mOth_t hN hp he ht⟩, fun h => absurd (by simp [ht']) h⟩
      · have ht' : ¬ (nA N p = e ∨ nB N p = e) := ht
        exact ⟨fun h => absurd h (by simp [ht']), fun _ => Or.inr ⟨rfl, mOth_f hN hp he ht⟩⟩
    · exact ⟨fun h => absurd h (by simp), fun _ => Or.inl rfl⟩
  have loop : ∀ (d i e : Nat) (x : Int32), i + d = k → e < 8 → Q (nI (stl N sh d x e)) g → Hm_drowsyOf_9 (nI k) x (nI e) (nI i) g Q := by
    intro d
    induction d with
    | zero =>
      intro i e x hi he hq
      have : i = k := by omega
      subst this
      exact Vm_drowsyOf_9 (brT (nI_le (Nat.le_refl _) (by omega)) hq)
    | succ d ih =>
      intro i e x hi he hq
      have hc := nch_le (N := N) (sh := sh) (e := e) N.1 0
      have e1 : stl N sh (d + 1) x e = (if nch N sh e N.1 0 = 0 then stl N sh d x e else stl N sh d (lot x) (beh N sh e N.1 0 (lotN x % nch N sh e N.1 0))) := rfl
      rw [e1] at hq
      refine Vm_drowsyOf_9 (brF (nI_ge (by omega) (by omega)) ?_)
      -- the choice
      have pick : ∀ (y : Int32) (b p r : Nat), p + b = N.1 → r < nch N sh e b p → Hm_drowsyOf_9 (nI k) y (nI (beh N sh e b p r)) (nI (i + 1)) g Q → Hm_drowsyOf_102 (nI k) y (nI e) (nI i) (nI r) (nI p) g Q := by
        intro y b
        induction b with
        | zero => intro p r _ hr _; exact absurd hr (Nat.not_lt_zero r)
        | succ b ih2 =>
          intro p r hp hr hq2
          have hpn : p < N.1 := by omega
          have hb := nch_le (N := N) (sh := sh) (e := e) (b + 1) p
          have n1 : nch N sh e (b + 1) p = b1 (chB N sh e p) + nch N sh e b (p + 1) := rfl
          have n2 : beh N sh e (b + 1) p r = (if chB N sh e p = true then (if r = 0 then opp N p e else beh N sh e b (p + 1) (r - 1)) else beh N sh e b (p + 1) r) := rfl
          rw [n2] at hq2
          rw [n1] at hr hb
          have hrb : r < 2 ^ 31 := by omega
          obtain ⟨-, -, -, -, v0, v1, -⟩ := ix4 (show p < 16 by omega)
          obtain ⟨c1, c2⟩ := ch e p he hpn
          refine Vm_drowsyOf_102 ?_
          rw [h41, tbb_n _ (show p < 32 by omega), nI_1 p, nI_1 i, Int32.sub_zero]
          by_cases hch : chB N sh e p = true
          · obtain ⟨c3, c4⟩ := c1 hch
            rw [if_pos hch] at hq2
            rw [hch] at hr
            rw [c4]
            have hns : ¬ bt sh p = true := by rw [c3]; decide
            have hno : ¬ nI (opp N p e) = -1 := nI_m1 (by have := opp_lt hN.1 e hpn; omega)
            refine brF hns ⟨v0, v1, brF hno ⟨fun hr0 => ⟨v0, v1, ?_⟩, fun hr0 => brF hns ⟨v0, v1, brF hno ?_⟩⟩⟩
            · have : r = 0 := by
                have := (nI_leI (b := 0) (by omega) (by omega)).mp hr0
                omega
              rw [if_pos this] at hq2
              exact hq2
            · have hrn : r ≠ 0 := fun q => hr0 (by rw [q]; decide)
              rw [if_neg hrn] at hq2
              rw [show nI r - 1 = nI (r - 1) from pk_sub (a := r) (b := 1) (by omega)]
              have hr' : r < 1 + nch N sh e b (p + 1) := hr
              exact ih2 (p + 1) (r - 1) (by omega) (by omega) hq2
          · have hcf : chB N sh e p = false := by simpa using hch
            rw [if_neg hch] at hq2
            rw [hcf] at hr
            have hr' : r < 0 + nch N sh e b (p + 1) := hr
            have hn := ih2 (p + 1) r (by omega) (by omega) hq2
            rcases c2 hch with c3 | ⟨c3, c4⟩
            · exact brT c3 (brT c3 hn)
            · have hns : ¬ bt sh p = true := by rw [c3]; decide
              rw [c4]
              exact brF hns ⟨v0, v1, brT rfl (brF hns ⟨v0, v1, brT rfl hn⟩)⟩
      have many : ∀ (b p c : Nat), p + b = N.1 → c ≤ p → nch N sh e N.1 0 = c + nch N sh e b p → Hm_drowsyOf_21 (nI k) x (nI e) (nI i) (nI c) (nI p) g Q := by
        intro b
        induction b with
        | zero =>
          intro p c hp hcp hcn
          have hpn : p = N.1 := by omega
          have hcn' : nch N sh e N.1 0 = c := hcn
          refine Vm_drowsyOf_21 ?_
          rw [hN.2.1, hpn]
          refine brT (nI_le (Nat.le_refl _) (by omega)) ⟨fun h0 => ?_, fun h0 => ?_⟩
          · have hc0 : c = 0 := by
              have := (nI_leI (b := 0) (by omega) (by omega)).mp h0
              omega
            rw [nI_1]
            refine ih (i + 1) e x (by omega) he ?_
            rw [if_pos (by omega)] at hq
            exact hq
          · have hc0 : c ≠ 0 := fun q => h0 (by rw [q]; decide)
            refine ⟨fun hz => hc0 ((nI_eq (b := 0) (by omega) (by omega)).mp hz), ?_⟩
            rw [lot_r (by omega) (by omega)]
            rw [if_neg (by omega), hcn'] at hq
            have hlt := Nat.mod_lt (lotN x) (show 0 < c by omega)
            exact pick _ N.1 0 _ (by omega) (by omega) (ih (i + 1) _ _ (by omega) (beh_lt hN.1 he _ _ _ (by omega)) hq)
        | succ b ih2 =>
          intro p c hp hcp hcn
          have hpn : p < N.1 := by omega
          have n1 : nch N sh e (b + 1) p = b1 (chB N sh e p) + nch N sh e b (p + 1) := rfl
          rw [n1] at hcn
          obtain ⟨-, -, -, -, v0, v1, -⟩ := ix4 (show p < 16 by omega)
          obtain ⟨c1, c2⟩ := ch e p he hpn
          refine Vm_drowsyOf_21 ?_
          rw [hN.2.1, h41, tbb_n _ (show p < 32 by omega), nI_1 p, Int32.add_zero, nI_1 c]
          refine brF (nI_ge hpn (by omega)) ?_
          by_cases hch : chB N sh e p = true
          · obtain ⟨c3, c4⟩ := c1 hch
            rw [hch] at hcn
            have hcn' : nch N sh e N.1 0 = c + (1 + nch N sh e b (p + 1)) := hcn
            rw [c4]
            exact brF (by rw [c3]; decide) ⟨v0, v1, brF (nI_m1 (by have := opp_lt hN.1 e hpn; omega)) (ih2 (p + 1) (c + 1) (by omega) (by omega) (by omega))⟩
          · have hcf : chB N sh e p = false := by simpa using hch
            rw [hcf] at hcn
            have hcn' : nch N sh e N.1 0 = c + (0 + nch N sh e b (p + 1)) := hcn
            have hn := ih2 (p + 1) c (by omega) (by omega) (by omega)
            rcases c2 hch with c3 | ⟨c3, c4⟩
            · exact brT c3 hn
            · rw [c4]
              exact brF (by rw [c3]; decide) ⟨v0, v1, brT rfl hn⟩
      exact many N.1 0 0 (by omega) (by omega) (by omega)
  exact Vm_drowsyOf (loop k 0 e x (by omega) he hQ)
theorem Sx_drowsy {g : Sg} {bv : Nat → Nat} {n : Nat} {sh : Int32} {tk hd m : Nat} {f t : Nat → Int32} {e k : Nat} {x : Int32} {Q : Int32 → Sg → Prop} (hX : RelX g bv n sh tk hd m f t) (he : e < 8) (hk : k ≤ 20) (hQ : Q (nI (stl (NT bv n) sh k x e)) g) : Cx_drowsy x (nI e) (nI k) g Q :=
  Vx_drowsy (brT (isE_n he) (brT (rng' (n := 20) (by omega) hk) (Sr_stroll hX.1.net hX.2.2.1.1 he hk hQ)))
theorem op_drowsy {x1 x2 x3 : Int32} {g : Sg} {Q : Int32 → Int32 → Sg → Prop} (hR : Rel g) (hQ : ∀ r g', Rel g' → Q r r g') : Cx_drowsy x1 x2 x3 g (fun r g1 => Cm_drowsy x1 x2 x3 g1 (fun r' g2 => Q r r' g2)) := by
  obtain ⟨⟨bv, n, sh, tk, hd, m, f, t, hX⟩, hJ, hSh⟩ := id hR
  by_cases h1 : isE x2
  · by_cases h2 : 0 ≤ x3 ∧ x3 ≤ 20
    · obtain ⟨e, he, rfl⟩ := isE_of h1
      obtain ⟨k, hk, rfl⟩ := rng (n := 20) (by omega) h2
      refine Sx_drowsy hX he hk (Vm_drowsy (Sm_reads hX.2.1 _ (fun g2 f1 f2 hN2 => brT h1 (brT h2 (Sm_drowsyOf hN2 ?_ he hk (hQ _ _ (hR.sc (Kp.rd f1 f2))))))))
      rw [Kp.rd f1 f2 41 0 rfl]; exact hX.2.2.1.2.1
    · exact Vx_drowsy (brT h1 (brF h2 (Vm_drowsy (Sm_reads hX.2.1 _ (fun g2 f1 f2 hN2 => brT h1 (brF h2 (hQ _ _ (hR.sc (Kp.rd f1 f2)))))))))
  · exact Vx_drowsy (brF h1 (Vm_drowsy (Sm_reads hX.2.1 _ (fun g2 f1 f2 hN2 => brF h1 (hQ _ _ (hR.sc (Kp.rd f1 f2)))))))
