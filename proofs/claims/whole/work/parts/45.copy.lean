/-! sheets: copy -/
def spn (a c z : Int32) : Prop := 0 ≤ a.toInt ∧ 0 ≤ c.toInt ∧ a.toInt + c.toInt ≤ z.toInt
theorem spn_C {a c : Int32} {z : Nat} (hz : z ≤ 60) : spn a c (nI z) ↔ (¬ a < 0 ∧ ¬ c < 0 ∧ ¬ (nI z - c) < a) := by
  have h0 : (0 : Int32).toInt = 0 := by decide
  have hzt := nI_toInt (n := z) (by omega)
  unfold spn
  rw [Int32.lt_iff_toInt_lt, Int32.lt_iff_toInt_lt, Int32.lt_iff_toInt_lt, h0, hzt]
  have hc1 := c.toInt_lt
  by_cases hc : c.toInt < 0
  · constructor
    · intro h; omega
    · intro h; omega
  · have hs : (nI z - c).toInt = (z : Int) - c.toInt := by
      rw [Int32.toInt_sub, hzt]
      apply Int.bmod_eq_of_le
      · omega
      · omega
    rw [hs]
    constructor
    · intro h; omega
    · intro h; omega
theorem spn_M {a c z : Int32} : lg_cmp (a.toInt64 + c.toInt64) z.toInt64 ≤ 0 ↔ a.toInt + c.toInt ≤ z.toInt := by
  rw [lg_cmp_le, Int64.le_iff_toInt_le, Int32.toInt_toInt64]
  have h1 := a.toInt_lt
  have h2 := a.le_toInt
  have h3 := c.toInt_lt
  have h4 := c.le_toInt
  have hs : (a.toInt64 + c.toInt64).toInt = a.toInt + c.toInt := by
    rw [Int64.toInt_add, Int32.toInt_toInt64, Int32.toInt_toInt64]
    apply Int.bmod_eq_of_le
    · omega
    · omega
  rw [hs]
theorem Ss_hasSpan {s z : Nat} {x2 x3 : Int32} {g : Sg} {Q : Int32 → Sg → Prop} (hs4 : s < 4) (hz : z ≤ 60) (hg : g 33 s = nI z) (h1 : spn x2 x3 (nI z) → Q 1 g) (h0 : ¬ spn x2 x3 (nI z) → Q 0 g) : Cs_hasSpan (nI s) x2 x3 g Q := by
  have hc := spn_C (a := x2) (c := x3) hz
  refine Vs_hasSpan ⟨fun h => h0 (fun hq => (hc.mp hq).1 h), fun h => ⟨fun h' => h0 (fun hq => (hc.mp hq).2.1 h'), fun h' => ⟨vp_in_nI hs4 (by omega), ?_⟩⟩⟩
  rw [nI_clamp (show s < 2 ^ 31 by omega), hg]
  exact ⟨fun h'' => h0 (fun hq => (hc.mp hq).2.2 h''), fun h'' => h1 (hc.mpr ⟨h, h', h''⟩)⟩
theorem cpM2 {tt j n : Nat} {g : Sg} {src : Nat → Int32} {Q : Int32 → Sg → Prop} (ht4 : tt < 4) (hj : j + n ≤ 60)
    (hk : ∀ g', (∀ c, c ≠ 37 → c ≠ 38 → g' c = g c) → (∀ k, g' 37 k = if tt * 60 + j ≤ k ∧ k < tt * 60 + j + n then src (k - (tt * 60 + j)) else g 37 k) → Q 1 g') :
    ∀ (m a : Nat) (g1 : Sg), a + m = n → (∀ c, c ≠ 37 → c ≠ 38 → g1 c = g c) → (∀ b, b < n → g1 38 b = src b) → (∀ k, g1 37 k = if tt * 60 + j ≤ k ∧ k < tt * 60 + j + a then src (k - (tt * 60 + j)) else g 37 k) → Hm_copy_157 (nI tt) (nI j) (nI n) (nI a) g1 Q := by
  intro m
  induction m with
  | zero =>
    intro a g1 ham hfr h38 h37
    have ha : a = n := by omega
    rw [ha] at h37 ⊢
    exact Vm_copy_157 (brT (nI_le (Nat.le_refl _) (by omega)) (hk g1 hfr h37))
  | succ m ih =>
    intro a g1 ham hfr h38 h37
    refine Vm_copy_157 (brF (nI_ge (by omega) (by omega)) ?_)
    have e1 : 60 * nI tt + nI j + nI a = nI (tt * 60 + j + a) := by
      rw [show 60 * nI tt = nI (60 * tt) from pk_mul 60 tt, nI_add, nI_add, Nat.mul_comm 60 tt]
    rw [e1, nI_clamp (show a < 2 ^ 31 by omega), nI_clamp (show tt * 60 + j + a < 2 ^ 31 by omega), nI_1, h38 a (by omega)]
    refine ⟨vp_in_nI (by omega) (by omega), vp_in_nI (by omega) (by omega), ih (a + 1) _ (by omega) (fun c c37 c38 => by funext k; rw [sg_k c37, hfr c c37 c38]) (fun b hb => by rw [sg_k (by decide)]; exact h38 b hb) (fun k => ?_)⟩
    by_cases hkx : k = tt * 60 + j + a
    · rw [hkx, sg_s, if_pos (by omega)]
      congr 1; omega
    · rw [sg_j hkx, h37 k]
      by_cases hc : tt * 60 + j ≤ k ∧ k < tt * 60 + j + a
      · rw [if_pos hc, if_pos (by omega)]
      · rw [if_neg hc, if_neg (by omega)]
theorem cpM1 {s i tt j n : Nat} {g : Sg} {Q : Int32 → Sg → Prop} (hs4 : s < 4) (ht4 : tt < 4) (hi : i + n ≤ 60) (hj : j + n ≤ 60)
    (hk : ∀ g', (∀ c, c ≠ 37 → c ≠ 38 → g' c = g c) → (∀ k, g' 37 k = if tt * 60 + j ≤ k ∧ k < tt * 60 + j + n then g 37 (s * 60 + i + (k - (tt * 60 + j))) else g 37 k) → Q 1 g') :
    ∀ (m a : Nat) (g1 : Sg), a + m = n → (∀ c, c ≠ 38 → g1 c = g c) → (∀ b, b < a → g1 38 b = g 37 (s * 60 + i + b)) → Hm_copy_120 (nI s) (nI i) (nI tt) (nI j) (nI n) (nI a) g1 Q := by
  intro m
  induction m with
  | zero =>
    intro a g1 ham hfr h38
    have ha : a = n := by omega
    rw [ha] at h38 ⊢
    refine Vm_copy_120 (brT (nI_le (Nat.le_refl _) (by omega)) ?_)
    refine cpM2 (g := g1) (src := fun b => g 37 (s * 60 + i + b)) ht4 hj (fun g' hfr' h37 => hk g' (fun c c37 c38 => (hfr' c c37 c38).trans (hfr c c38)) (fun k => by rw [h37 k, hfr 37 (by decide)])) n 0 g1 (by omega) (fun _ _ _ => rfl) h38 (fun k => by rw [if_neg (by omega)])
  | succ m ih =>
    intro a g1 ham hfr h38
    refine Vm_copy_120 (brF (nI_ge (by omega) (by omega)) ?_)
    have e1 : 60 * nI s + nI i + nI a = nI (s * 60 + i + a) := by
      rw [show 60 * nI s = nI (60 * s) from pk_mul 60 s, nI_add, nI_add, Nat.mul_comm 60 s]
    rw [e1, nI_clamp (show a < 2 ^ 31 by omega), nI_clamp (show s * 60 + i + a < 2 ^ 31 by omega), nI_1, hfr 37 (by decide)]
    refine ⟨vp_in_nI (by omega) (by omega), vp_in_nI (by omega) (by omega), ih (a + 1) _ (by omega) (fun c c38 => by funext k; rw [sg_k c38, hfr c c38]) (fun b hb => ?_)⟩
    by_cases hba : b = a
    · rw [hba, sg_s]
    · rw [sg_j hba]; exact h38 b (by omega)
theorem op_copy {x1 x2 x3 x4 x5 : Int32} {g : Sg} {Q : Int32 → Int32 → Sg → Prop} (hR : Rel g) (hQ : ∀ r g', Rel g' → Q r r g') : Cx_copy x1 x2 x3 x4 x5 g (fun r g1 => Cm_copy x1 x2 x3 x4 x5 g1 (fun r' g2 => Q r r' g2)) := by
  have hS := hR.2.2
  have fin : ∀ fd, Rel (sgU (sgU g 30 3 fd) 34 4 fd) := fun fd => hR.sh (Kp.find g fd) (hS.find fd)
  by_cases hs : isS x1
  · by_cases ht : isS x3
    · obtain ⟨s, hs4, rfl⟩ := isS_of hs
      obtain ⟨tt, ht4, rfl⟩ := isS_of ht
      have is : vp_in (nI s) 4 := vp_in_nI hs4 (by omega)
      have it : vp_in (nI tt) 4 := vp_in_nI ht4 (by omega)
      have cs : (nI s).toNatClampNeg = s := nI_clamp (by omega)
      have ct : (nI tt).toNatClampNeg = tt := nI_clamp (by omega)
      refine Vx_copy (brT hs (brT ht ⟨is, ?_⟩))
      rw [cs, ct]
      rcases hS.2 s hs4 with ⟨a1, a2⟩ | ⟨f, z, f2, z60, a1, a2, a3, a4, a5⟩
      · refine brT a1 (Vm_copy (brT hs (brT ht ⟨is, ?_⟩)))
        rw [cs, sg_k (by decide), a2]
        exact brT (by decide) (hQ _ _ (fin 1))
      · refine brF (by rw [a1]; exact nI_m1 (by omega)) ⟨it, ?_⟩
        rcases hS.2 tt ht4 with ⟨b1, b2⟩ | ⟨f', z', f2', z60', b1, b2, b3, b4, b5⟩
        · refine brT b1 (Vm_copy (brT hs (brT ht ⟨is, ?_⟩)))
          rw [cs, ct, sg_k (by decide), a2, sg_k (by decide), b2]
          exact brF (nI_pos (by omega)) ⟨it, brF ng1 (hQ _ _ (fin 1))⟩
        · refine brF (by rw [b1]; exact nI_m1 (by omega)) ⟨is, it, ?_⟩
          -- the reference, from any heap with the same forms and sizes
          have ref : ∀ (g1 : Sg) (QM : Int32 → Sg → Prop), g1 35 = g 35 → g1 36 = g 36 → (¬ f = f' → QM ((-10) - 4) (sgU g1 34 4 4)) → (f = f' → ¬ (spn x2 x5 (nI z) ∧ spn x4 x5 (nI z')) → QM ((-10) - 2) (sgU g1 34 4 2)) → (f = f' → spn x2 x5 (nI z) → spn x4 x5 (nI z') → Hm_copy_120 (nI s) x2 (nI tt) x4 x5 0 g1 QM) → Cm_copy (nI s) x2 (nI tt) x4 x5 g1 QM := by
            intro g1 QM e35 e36 q4 q2 q1
            have h0 : (0 : Int32).toInt = 0 := by decide
            refine Vm_copy (brT hs (brT ht ⟨is, ?_⟩))
            rw [cs, ct, e35, e36, a2, b2, a4, b4]
            refine brF (nI_pos (by omega)) ⟨it, brT (nI_pos' (by omega)) ⟨is, it, ?_⟩⟩
            by_cases hff : f = f'
            · refine brT (by rw [hff]) ⟨fun hx => q2 hff (fun hq => ?_), fun hx => ⟨fun hy => q2 hff (fun hq => ?_), fun hy => ⟨fun hw => q2 hff (fun hq => ?_), fun hw => ⟨is, ?_⟩⟩⟩⟩
              · rw [Int32.lt_iff_toInt_lt, h0] at hx; have := hq.1.1; omega
              · rw [Int32.lt_iff_toInt_lt, h0] at hy; have := hq.2.1; omega
              · rw [Int32.lt_iff_toInt_lt, h0] at hw; have := hq.1.2.1; omega
              · rw [Int32.lt_iff_toInt_lt, h0] at hx hy hw
                have m1 := spn_M (a := x2) (c := x5) (z := nI z)
                have m2 := spn_M (a := x4) (c := x5) (z := nI z')
                refine ⟨fun hp => q2 hff (fun hq => absurd hp (Int32.not_lt.mpr (m1.mpr hq.1.2.2))), fun hp => ⟨it, fun hr => q1 hff ⟨by omega, by omega, m1.mp (Int32.not_lt.mp hp)⟩ ⟨by omega, by omega, m2.mp hr⟩, fun hr => q2 hff (fun hq => hr (m2.mpr hq.2.2.2))⟩⟩
            · exact brF (fun hx => hff ((nI_eq (by omega) (by omega)).mp hx)) (q4 hff)
          have e35 : ∀ fd, (sgU g 30 3 fd) 35 = g 35 := fun fd => by funext k; rw [sg_k (by decide)]
          have e36 : ∀ fd, (sgU g 30 3 fd) 36 = g 36 := fun fd => by funext k; rw [sg_k (by decide)]
          by_cases hff : f = f'
          · refine brT (by rw [a1, b1, hff]) (Ss_hasSpan hs4 z60 a3 (fun p1 => br1 (Ss_hasSpan ht4 z60' b3 (fun p2 => br1 ?_) (fun p2 => br0 (ref _ _ (e35 2) (e36 2) (fun hx => absurd hff hx) (fun _ _ => hQ _ _ (fin 2)) (fun _ _ hx => absurd hx p2))))) (fun p1 => br0 (ref _ _ (e35 2) (e36 2) (fun hx => absurd hff hx) (fun _ _ => hQ _ _ (fin 2)) (fun _ hx => absurd hx p1))))
            have hzt := nI_toInt (n := z) (by omega)
            have hzt' := nI_toInt (n := z') (by omega)
            have h0 : (0 : Int32).toInt = 0 := by decide
            obtain ⟨i, hi31, rfl⟩ := nI_of (x := x2) (by rw [Int32.lt_iff_toInt_lt, h0]; have := p1.1; omega)
            obtain ⟨j, hj31, rfl⟩ := nI_of (x := x4) (by rw [Int32.lt_iff_toInt_lt, h0]; have := p2.1; omega)
            obtain ⟨n, hn31, rfl⟩ := nI_of (x := x5) (by rw [Int32.lt_iff_toInt_lt, h0]; have := p1.2.1; omega)
            have p1' := p1.2.2
            have p2' := p2.2.2
            rw [nI_toInt hi31, nI_toInt hn31, hzt] at p1'
            rw [nI_toInt hj31, nI_toInt hn31, hzt'] at p2'
            have e1 : nI s * 60 + nI i = nI (s * 60 + i) := by rw [show nI s * 60 = nI (s * 60) from pk_mul s 60, nI_add]
            have e2 : nI tt * 60 + nI j = nI (tt * 60 + j) := by rw [show nI tt * 60 = nI (tt * 60) from pk_mul tt 60, nI_add]
            refine Vs_move ?_
            rw [e1, e2, nI_clamp (show s * 60 + i < 2 ^ 31 by omega), nI_clamp (show tt * 60 + j < 2 ^ 31 by omega), nI_clamp hn31]
            refine ⟨nI_pos (by omega), nI_pos (by omega), nI_pos (by omega), by omega, by omega, ?_⟩
            have c1 : ∀ c, c ≠ 31 → (sgC g 31 (va_cpy (g 31) (g 31) (s * 60 + i) (tt * 60 + j) n)) c = g c := fun c hc => sgC_k hc
            refine ref _ _ (c1 35 (by decide)) (c1 36 (by decide)) (fun hx => absurd hff hx) (fun _ hx => absurd ⟨p1, p2⟩ hx) (fun _ _ _ => ?_)
            refine cpM1 hs4 ht4 (by omega) (by omega) (fun g2 hf2 h37 => hQ _ _ (hR.sh (fun k jj hk => ?_) ⟨?_, fun s' hs' => ?_⟩)) n 0 _ (by omega) (fun _ _ => rfl) (fun b hb => absurd hb (by omega))
            · simp [cSh] at hk
              rw [hf2 k (by omega) (by omega), c1 k (by omega)]
            · rw [hf2 30 (by decide) (by decide), hf2 34 (by decide) (by decide), c1 30 (by decide), c1 34 (by decide)]; exact hS.1
            · have g31 : ∀ k, g2 31 k = if tt * 60 + j ≤ k ∧ k < tt * 60 + j + n then g 31 (s * 60 + i + (k - (tt * 60 + j))) else g 31 k := fun k => by
                rw [hf2 31 (by decide) (by decide), sgC_s]
                unfold va_cpy
                rfl
              have g37 : ∀ k, g2 37 k = if tt * 60 + j ≤ k ∧ k < tt * 60 + j + n then g 37 (s * 60 + i + (k - (tt * 60 + j))) else g 37 k := fun k => by
                rw [h37 k, c1 37 (by decide)]
              have o : ∀ c, c ≠ 31 → c ≠ 37 → c ≠ 38 → g2 c = g c := fun c c31 c37 c38 => (hf2 c c37 c38).trans (c1 c c31)
              by_cases e : s' = tt
              · rw [e]
                right
                refine ⟨f', z', f2', z60', by rw [o 32 (by decide) (by decide) (by decide)]; exact b1, by rw [o 35 (by decide) (by decide) (by decide)]; exact b2, by rw [o 33 (by decide) (by decide) (by decide)]; exact b3, by rw [o 36 (by decide) (by decide) (by decide)]; exact b4, fun k hk => ?_⟩
                rw [g31, g37]
                by_cases hc : tt * 60 + j ≤ tt * 60 + k ∧ tt * 60 + k < tt * 60 + j + n
                · rw [if_pos hc, if_pos hc]
                  have e3 : s * 60 + i + (tt * 60 + k - (tt * 60 + j)) = s * 60 + (i + (k - j)) := by omega
                  rw [e3]
                  exact a5 _ (by omega)
                · rw [if_neg hc, if_neg hc]; exact b5 k hk
              · refine (hS.2 s' hs').of (by rw [o 32 (by decide) (by decide) (by decide)]) (by rw [o 35 (by decide) (by decide) (by decide)]) (by rw [o 33 (by decide) (by decide) (by decide)]) (by rw [o 36 (by decide) (by decide) (by decide)]) (fun k hk => ?_) (fun k hk => ?_)
                · rw [g31, if_neg (by omega)]
                · rw [g37, if_neg (by omega)]
          · exact brF (fun hx => hff (by rw [a1, b1] at hx; exact (nI_eq (by omega) (by omega)).mp hx)) (ref _ _ (e35 4) (e36 4) (fun _ => hQ _ _ (fin 4)) (fun hx => absurd hx hff) (fun hx => absurd hx hff))
    · exact Vx_copy (brT hs (brF ht (Vm_copy (brT hs (brF ht (hQ _ _ hR))))))
  · exact Vx_copy (brF hs (Vm_copy (brF hs (hQ _ _ hR))))
