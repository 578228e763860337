/-! out -/
def ofr (P : Nat → Int32) (w : Nat) : Nat → Int32
  | 0 => P w
  | i + 1 => if (P (w + 1 + i) &&& ofr P w i) = 0 then ofr P w i else ofr P w i ||| P (w + 1 + i)
def odr (P : Nat → Int32) (w : Nat) : Nat → Int32
  | 0 => sb (nI w)
  | i + 1 => if (P (w + 1 + i) &&& ofr P w i) = 0 then odr P w i else odr P w i ||| sb (nI (w + 1 + i))
theorem odr_ok (P : Nat → Int32) (w : Nat) : ∀ i : Nat, w + i < 16 → (∀ v, bt (odr P w i) v = true → w ≤ v ∧ v ≤ w + i) ∧ (∀ b, bt (ofr P w i) b = true ↔ ∃ k, bt (odr P w i) k = true ∧ bt (P k) b = true) ∧ bt (odr P w i) w = true := by
  intro i
  induction i with
  | zero =>
    intro hw
    have hb : ∀ v, bt (odr P w 0) v = decide (v = w) := fun v => b_sb (by omega) v
    refine ⟨fun v hv => ?_, fun b => ?_, ?_⟩
    · rw [hb] at hv; have := of_decide_eq_true hv; omega
    · constructor
      · intro h; exact ⟨w, by rw [hb]; simp, h⟩
      · rintro ⟨k, h1, h2⟩
        rw [hb] at h1
        rw [of_decide_eq_true h1] at h2
        exact h2
    · rw [hb]; simp
  | succ i ih =>
    intro hw
    obtain ⟨h1, h2, h3⟩ := ih (by omega)
    have e1 : odr P w (i + 1) = (if (P (w + 1 + i) &&& ofr P w i) = 0 then odr P w i else odr P w i ||| sb (nI (w + 1 + i))) := rfl
    have e2 : ofr P w (i + 1) = (if (P (w + 1 + i) &&& ofr P w i) = 0 then ofr P w i else ofr P w i ||| P (w + 1 + i)) := rfl
    by_cases hz : (P (w + 1 + i) &&& ofr P w i) = 0
    · rw [e1, e2, if_pos hz, if_pos hz]
      exact ⟨fun v hv => by have := h1 v hv; omega, h2, h3⟩
    · rw [e1, e2, if_neg hz, if_neg hz]
      have hb : ∀ v, bt (odr P w i ||| sb (nI (w + 1 + i))) v = true ↔ (bt (odr P w i) v = true ∨ v = w + 1 + i) := fun v => by
        rw [b_or, b_sb (by omega)]; simp
      refine ⟨fun v hv => ?_, fun b => ?_, (hb w).mpr (Or.inl h3)⟩
      · rcases (hb v).mp hv with h | h
        · have := h1 v h; omega
        · omega
      · rw [b_or, Bool.or_eq_true, h2]
        constructor
        · rintro (⟨k, k1, k2⟩ | h)
          · exact ⟨k, (hb k).mpr (Or.inl k1), k2⟩
          · exact ⟨w + 1 + i, (hb _).mpr (Or.inr rfl), h⟩
        · rintro ⟨k, k1, k2⟩
          rcases (hb k).mp k1 with h | h
          · exact Or.inl ⟨k, h, k2⟩
          · rw [h] at k2; exact Or.inr k2
theorem odr_st (P : Nat → Int32) (w : Nat) : ∀ (d i : Nat), w + (i + d) < 16 → ∀ v, v ≤ w + i → bt (odr P w (i + d)) v = bt (odr P w i) v := by
  intro d
  induction d with
  | zero => intro i _ v _; rfl
  | succ d ih =>
    intro i hw v hv
    rw [← ih i (by omega) v hv]
    have e1 : odr P w (i + (d + 1)) = (if (P (w + 1 + (i + d)) &&& ofr P w (i + d)) = 0 then odr P w (i + d) else odr P w (i + d) ||| sb (nI (w + 1 + (i + d)))) := rfl
    rw [e1]
    split
    · rfl
    · rw [b_or, b_sb (by omega), show decide (v = w + 1 + (i + d)) = false from decide_eq_false (by omega), Bool.or_false]
/-- the wires drawn out with wire w -/
def outA (P : Nat → Int32) (w : Nat) : Int32 := odr P w (15 - w)
theorem outA_key {P : Nat → Int32} {w : Nat} (hw : w < 16) (v : Nat) : bt (outA P w) v = true ↔ (v = w ∨ (w < v ∧ v < 16 ∧ ∃ k, k < v ∧ bt (outA P w) k = true ∧ ¬ (P v &&& P k) = 0)) := by
  unfold outA
  obtain ⟨h1, h2, h3⟩ := odr_ok P w (15 - w) (by omega)
  by_cases hvw : v = w
  · subst hvw; exact ⟨fun _ => Or.inl rfl, fun _ => h3⟩
  by_cases hr : w < v ∧ v < 16
  · obtain ⟨i, hi⟩ : ∃ i, v = w + 1 + i := ⟨v - w - 1, by omega⟩
    have s1 := odr_st P w (15 - w - (i + 1)) (i + 1) (by omega) v (by omega)
    rw [show i + 1 + (15 - w - (i + 1)) = 15 - w by omega] at s1
    have s2 : ∀ k, k < v → bt (odr P w (15 - w)) k = bt (odr P w i) k := fun k hk => by
      have := odr_st P w (15 - w - i) i (by omega) k (by omega)
      rw [show i + (15 - w - i) = 15 - w by omega] at this
      exact this
    obtain ⟨q1, q2, q3⟩ := odr_ok P w i (by omega)
    have e1 : odr P w (i + 1) = (if (P (w + 1 + i) &&& ofr P w i) = 0 then odr P w i else odr P w i ||| sb (nI (w + 1 + i))) := rfl
    have hvf : ¬ bt (odr P w i) v = true := fun h => by have := q1 v h; omega
    have hmid : bt (odr P w (i + 1)) v = true ↔ ¬ (P v &&& ofr P w i) = 0 := by
      rw [e1, ← hi]
      by_cases hz : (P v &&& ofr P w i) = 0
      · rw [if_pos hz]; exact ⟨fun h => absurd h hvf, fun h => absurd hz h⟩
      · rw [if_neg hz, b_or, b_sb (by omega)]; simp [hz]
    rw [s1, hmid]
    constructor
    · intro hz
      refine Or.inr ⟨hr.1, hr.2, ?_⟩
      have hz2 : ¬ ∀ b, b < 32 → ¬ (bt (P v) b = true ∧ bt (ofr P w i) b = true) := fun h => hz (b_az.mpr h)
      obtain ⟨b, hb⟩ := Classical.not_forall.mp hz2
      have hb' := Classical.not_imp.mp hb
      obtain ⟨hb1, hb2⟩ := hb'
      have hb3 := Classical.not_not.mp hb2
      obtain ⟨k, k1, k2⟩ := (q2 b).mp hb3.2
      have hk := q1 k k1
      exact ⟨k, by omega, by rw [s2 k (by omega)]; exact k1, fun h0 => b_az.mp h0 b hb1 ⟨hb3.1, k2⟩⟩
    · rintro (h | ⟨-, -, k, k1, k2, k3⟩)
      · exact absurd h hvw
      · intro hz
        refine k3 (b_az.mpr (fun b hb hbb => b_az.mp hz b hb ⟨hbb.1, (q2 b).mpr ⟨k, by rw [← s2 k k1]; exact k2, hbb.2⟩⟩))
  · constructor
    · intro h; have := h1 v h; omega
    · rintro (h | ⟨a1, a2, -⟩)
      · exact absurd h hvw
      · exact absurd ⟨a1, a2⟩ hr
theorem Sb_drawnOutWith {g : Sg} {P : Nat → Int32} {m w : Nat} {Q : Int32 → Sg → Prop} (hw : w < 16) (hm : m ≤ 16) (h6 : g 11 6 = nI m) (hl : lyl g P m) (hPw : P w ≠ 0) (hQ : Q (outA P w) g) : Cb_drawnOutWith (nI w) g Q := by
  have loop : ∀ (d i : Nat), w + 1 + i + d = 16 → Hb_drawnOutWith_23 (ly P) (odr P w i) (ofr P w i) (nI (w + 1 + i)) g Q := by
    intro d
    induction d with
    | zero =>
      intro i hi
      rw [show w + 1 + i = 16 by omega]
      have : i = 15 - w := by omega
      subst this
      exact Vb_drawnOutWith_23 (brT (by decide) hQ)
    | succ d ih =>
      intro i hi
      have hpc : (if tbb (ly P) (nI (w + 1 + i)) = true then g 15 (nI (w + 1 + i)).toNatClampNeg else 0) = P (w + 1 + i) := by
        rw [tbb_n _ (by omega), nI_clamp (show w + 1 + i < 2 ^ 31 by omega)]
        exact PC_ly hl.2 (by omega)
      have h1 := ih (i + 1) (by omega)
      have e1 : odr P w (i + 1) = (if (P (w + 1 + i) &&& ofr P w i) = 0 then odr P w i else odr P w i ||| sb (nI (w + 1 + i))) := rfl
      have e2 : ofr P w (i + 1) = (if (P (w + 1 + i) &&& ofr P w i) = 0 then ofr P w i else ofr P w i ||| P (w + 1 + i)) := rfl
      rw [e1, e2] at h1
      refine Vb_drawnOutWith_23 (brF (fun hx => ?_) ⟨vp_in_nI (by omega) (by omega), ?_⟩)
      · have : 16 ≤ w + 1 + i := (nI_leI (a := 16) (b := w + 1 + i) (by omega) (by omega)).mp hx
        omega
      · rw [hpc, nI_1]
        refine ⟨fun hz => ?_, fun hz => ?_⟩
        · rw [if_pos hz, if_pos hz] at h1; exact h1
        · rw [if_neg hz, if_neg hz] at h1; exact h1
  refine Vb_drawnOutWith ?_
  rw [h6, nI_clamp (show m < 2 ^ 31 by omega), nI_clamp (show w < 2 ^ 31 by omega), nI_1, hl.1, hl.2 w hw hPw]
  exact ⟨vp_in_nI (by omega) (by omega), vp_in_nI (by omega) (by omega), loop (16 - (w + 1)) 0 (by omega)⟩
theorem Sm_outOf {g : Sg} {P : Nat → Int32} {w : Nat} {Q : Int32 → Sg → Prop} (hw : w < 16) (hG : MG g P) (hQ : Q (if P w = 0 then -3 else outA P w) g) : Cm_outOf (nI w) g Q := by
  have hpc : ∀ v, v < 16 → (if tbb (ly P) (nI v) = true then g 43 (nI v).toNatClampNeg else 0) = P v := fun v hv => by
    rw [tbb_n _ (by omega), nI_clamp (show v < 2 ^ 31 by omega)]
    by_cases hx : P v = 0
    · rw [if_neg (fun hy => (ly_bt P hv).mp hy hx), hx]
    · rw [if_pos ((ly_bt P hv).mpr hx), hG.2.1 v hv hx]
  by_cases hPw : P w = 0
  · refine Vm_outOf ?_
    rw [hG.1, tbb_n _ (by omega)]
    rw [if_pos hPw] at hQ
    exact brF (fun hx => (ly_bt P hw).mp hx hPw) hQ
  · rw [if_neg hPw] at hQ
    have hPd : ∀ v, v < 16 → bt (outA P w) v = true → P v ≠ 0 := fun v hv hb h0 => by
      rcases (outA_key hw v).mp hb with h | ⟨-, -, k, -, -, k3⟩
      · rw [h] at h0; exact hPw h0
      · exact k3 (b_az.mpr (fun b _ hbb => by rw [h0, b_0] at hbb; exact absurd hbb.1 (by decide)))
    have loop : ∀ (d k : Nat) (x : Int32), k + d = 16 → w ≤ k → (∀ v, bt x v = true ↔ (v = w ∨ (w < v ∧ v < 16 ∧ ∃ j, j < k ∧ j < v ∧ bt (outA P w) j = true ∧ ¬ (P v &&& P j) = 0))) → Hm_outOf_20 x (nI k) g Q := by
      intro d
      induction d with
      | zero =>
        intro k x hk hwk hx
        have hk16 : k = 16 := by omega
        have hxe : x = outA P w := b_ext (fun i _ => by
          have h1 := hx i
          have h2 := outA_key (P := P) hw i
          have h3 : bt x i = true ↔ bt (outA P w) i = true := by
            rw [h1, h2]
            constructor
            · rintro (h | ⟨a1, a2, j, a3, a4, a5, a6⟩)
              · exact Or.inl h
              · exact Or.inr ⟨a1, a2, j, a4, a5, a6⟩
            · rintro (h | ⟨a1, a2, j, a4, a5, a6⟩)
              · exact Or.inl h
              · exact Or.inr ⟨a1, a2, j, by omega, a4, a5, a6⟩
          cases ha : bt x i <;> cases hb : bt (outA P w) i <;> simp_all)
        rw [hk16, hxe]
        exact Vm_outOf_20 (brT (by decide) hQ)
      | succ d ih =>
        intro k x hk hwk hx
        have hkD : bt x k = true ↔ bt (outA P w) k = true := by
          rw [hx k, outA_key hw k]
          constructor
          · rintro (h | ⟨a1, a2, j, a3, a4, a5, a6⟩)
            · exact Or.inl h
            · exact Or.inr ⟨a1, a2, j, a4, a5, a6⟩
          · rintro (h | ⟨a1, a2, j, a4, a5, a6⟩)
            · exact Or.inl h
            · exact Or.inr ⟨a1, a2, j, a4, a4, a5, a6⟩
        refine Vm_outOf_20 (brF (fun hxx => ?_) ?_)
        · have : 16 ≤ k := (nI_leI (a := 16) (b := k) (by omega) (by omega)).mp hxx
          omega
        rw [nI_1]
        have inner : ∀ (e j : Nat) (y : Int32), j + e = 16 → k < j → (∀ v, bt y v = true ↔ (bt x v = true ∨ (bt x k = true ∧ k < v ∧ v < j ∧ ¬ (P v &&& P k) = 0))) → Hm_outOf_31 y (nI k) (nI j) g Q := by
          have fin : ∀ (y : Int32), (∀ v, bt y v = true ↔ (bt x v = true ∨ (bt x k = true ∧ k < v ∧ v < 16 ∧ ¬ (P v &&& P k) = 0))) → Hm_outOf_20 y (nI k + 1) g Q := by
            intro y hy
            rw [nI_1]
            refine ih (k + 1) y (by omega) (by omega) (fun v => ?_)
            rw [hy v, hx v]
            constructor
            · rintro ((h | ⟨a1, a2, j, a3, a4, a5, a6⟩) | ⟨a1, a2, a3, a4⟩)
              · exact Or.inl h
              · exact Or.inr ⟨a1, a2, j, by omega, a4, a5, a6⟩
              · exact Or.inr ⟨by omega, a3, k, by omega, a2, hkD.mp a1, a4⟩
            · rintro (h | ⟨a1, a2, j, a3, a4, a5, a6⟩)
              · exact Or.inl (Or.inl h)
              · by_cases hjk : j = k
                · rw [hjk] at a4 a5 a6
                  exact Or.inr ⟨hkD.mpr a5, a4, a2, a6⟩
                · exact Or.inl (Or.inr ⟨a1, a2, j, by omega, a4, a5, a6⟩)
          intro e
          induction e with
          | zero =>
            intro j y hj hkj hy
            have hj16 : j = 16 := by omega
            rw [hj16] at hy ⊢
            exact Vm_outOf_31 (brT (by decide) (fin y hy))
          | succ e ih2 =>
            intro j y hj hkj hy
            refine Vm_outOf_31 (brF (fun hxx => ?_) ?_)
            · have : 16 ≤ j := (nI_leI (a := 16) (b := j) (by omega) (by omega)).mp hxx
              omega
            rw [tbb_n _ (show k < 32 by omega)]
            have hyk : bt y k = true ↔ bt x k = true := by
              rw [hy k]
              constructor
              · rintro (h | ⟨-, h, -⟩)
                · exact h
                · omega
              · exact Or.inl
            by_cases hbk : bt x k = true
            · refine brT (hyk.mpr hbk) ⟨vp_in_nI (by omega) (by omega), vp_in_nI (by omega) (by omega), ?_⟩
              rw [hG.1, hpc j (by omega), nI_clamp (show k < 2 ^ 31 by omega), hG.2.1 k (by omega) (hPd k (by omega) (hkD.mp hbk)), nI_1]
              refine ⟨fun hz => ?_, fun hz => ?_⟩
              · rw [Int32.or_zero]
                refine ih2 (j + 1) y (by omega) (by omega) (fun v => ?_)
                rw [hy v]
                constructor
                · rintro (h | ⟨a1, a2, a3, a4⟩)
                  · exact Or.inl h
                  · exact Or.inr ⟨a1, a2, by omega, a4⟩
                · rintro (h | ⟨a1, a2, a3, a4⟩)
                  · exact Or.inl h
                  · refine Or.inr ⟨a1, a2, ?_, a4⟩
                    by_cases hvj : v = j
                    · rw [hvj] at a4; exact absurd hz a4
                    · omega
              · refine ih2 (j + 1) _ (by omega) (by omega) (fun v => ?_)
                rw [b_or, b_sb (by omega), Bool.or_eq_true, hy v, decide_eq_true_iff]
                constructor
                · rintro ((h | ⟨a1, a2, a3, a4⟩) | h)
                  · exact Or.inl h
                  · exact Or.inr ⟨a1, a2, by omega, a4⟩
                  · exact Or.inr ⟨hbk, by omega, by omega, by rw [h]; exact hz⟩
                · rintro (h | ⟨a1, a2, a3, a4⟩)
                  · exact Or.inl (Or.inl h)
                  · by_cases hvj : v = j
                    · exact Or.inr hvj
                    · exact Or.inl (Or.inr ⟨a1, a2, by omega, a4⟩)
            · refine brF (fun h => hbk (hyk.mp h)) (fin y (fun v => ?_))
              rw [hy v]
              constructor
              · rintro (h | ⟨a1, -⟩)
                · exact Or.inl h
                · exact absurd a1 hbk
              · rintro (h | ⟨a1, -⟩)
                · exact Or.inl h
                · exact absurd a1 hbk
        refine inner (16 - (k + 1)) (k + 1) x (by omega) (by omega) (fun v => ?_)
        constructor
        · exact Or.inl
        · rintro (h | ⟨-, a2, a3, -⟩)
          · exact h
          · omega
    refine Vm_outOf ?_
    rw [hG.1, tbb_n _ (by omega)]
    refine brT ((ly_bt P hw).mpr hPw) (loop (16 - w) w _ (by omega) (Nat.le_refl _) (fun v => ?_))
    rw [b_sb (by omega), decide_eq_true_iff]
    constructor
    · exact Or.inl
    · rintro (h | ⟨a1, a2, j, a3, a4, a5, a6⟩)
      · exact h
      · rcases (outA_key hw j).mp a5 with h | ⟨h, -⟩ <;> omega
theorem Sx_out {g : Sg} {bv : Nat → Nat} {n : Nat} {sh : Int32} {tk hd m : Nat} {f t : Nat → Int32} {w : Nat} {Q : Int32 → Sg → Prop} (hX : RelX g bv n sh tk hd m f t) (hw : w < 16)
    (hQ : Q (if pw (NT bv n) sh tk f t m w = 0 then -3 else outA (pw (NT bv n) sh tk f t m) w) g) : Cx_out (nI w) g Q := by
  obtain ⟨hC, hM, hSet, hSt, hB⟩ := id hX
  have hm := hSt.2.2.1
  have hl := hB m (Nat.le_refl m)
  refine Vx_out (brT (isW_n hw) ?_)
  rw [hSt.1, nI_clamp (show m < 2 ^ 31 by omega), hl.1, tbb_n _ (by omega)]
  refine ⟨vp_in_nI (by omega) (by omega), ?_⟩
  by_cases h0 : pw (NT bv n) sh tk f t m w = 0
  · rw [if_pos h0] at hQ
    exact brF (fun hx => (ly_bt _ hw).mp hx h0) hQ
  · rw [if_neg h0] at hQ
    exact brT ((ly_bt _ hw).mpr h0) (Sb_drawnOutWith hw hm hSt.1 hl h0 hQ)
theorem op_out {x1 : Int32} {g : Sg} {Q : Int32 → Int32 → Sg → Prop} (hR : Rel g) (hQ : ∀ r g', Rel g' → Q r r g') : Cx_out x1 g (fun r g1 => Cm_out x1 g1 (fun r' g2 => Q r r' g2)) := by
  obtain ⟨⟨bv, n, sh, tk, hd, m, f, t, hX⟩, hJ, hSh⟩ := id hR
  by_cases h1 : isW x1
  · obtain ⟨w, hw, rfl⟩ := isW_of h1
    exact Sx_out hX hw (Vm_out (hX.goesAll (fun g' hk _ hG _ _ => brT h1 (Sm_outOf hw hG (hQ _ _ (hR.sc hk))))))
  · exact Vx_out (brF h1 (Vm_out (hX.goesAll (fun g' hk _ _ _ _ => brF h1 (hQ _ _ (hR.sc hk))))))
