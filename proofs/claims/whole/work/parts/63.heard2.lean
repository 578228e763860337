/-! heard: the reference -/
theorem half {k : Nat} (hk : k < 2 ^ 31) : nI k / 2 = nI (k / 2) ∧ nI k - nI k / 2 * 2 = nI (k % 2) := ⟨pk_div (d := 2) hk (by omega) (by omega), pk_rem (d := 2) hk (by omega) (by omega)⟩
theorem Sm_inAt {N : Net} {g : Sg} {k : Nat} {Q : Int32 → Sg → Prop} (hN : NM N g) (hk : k < 2 * N.1) (hQ : Q (nI (inE N k)) g) : Cm_inAt (nI k) g Q := by
  have h16 := hN.1.1
  obtain ⟨e1, e2⟩ := half (show k < 2 ^ 31 by omega)
  obtain ⟨i0, i1, -, -, v0, v1, -⟩ := ix4 (show k / 2 < 16 by omega)
  have hp := hN.2.2 (k / 2) (by omega)
  refine Vm_inAt ?_
  rw [e2, e1, Int32.add_zero, i0, i1, hp.1, hp.2.1]
  unfold inE at hQ
  refine ⟨fun hx => ⟨v0, ?_⟩, fun hx => ⟨v1, ?_⟩⟩
  · rw [if_pos ((nI_eq (b := 0) (by omega) (by omega)).mp hx)] at hQ; exact hQ
  · rw [if_neg (fun q => hx (by rw [q]; rfl))] at hQ; exact hQ
theorem Sm_outAt {N : Net} {g : Sg} {k : Nat} {Q : Int32 → Sg → Prop} (hN : NM N g) (hk : k < 2 * N.1) (hQ : Q (nI (ouE N k)) g) : Cm_outAt (nI k) g Q := by
  have h16 := hN.1.1
  obtain ⟨e1, e2⟩ := half (show k < 2 ^ 31 by omega)
  obtain ⟨i0, i1, -, -, v0, v1, -⟩ := ix4 (show k / 2 < 16 by omega)
  have hp := hN.2.2 (k / 2) (by omega)
  refine Vm_outAt ?_
  rw [e2, e1, Int32.add_zero, i0, i1, hp.1, hp.2.1]
  unfold ouE at hQ
  refine ⟨fun hx => ⟨v1, ?_⟩, fun hx => ⟨v0, ?_⟩⟩
  · rw [if_pos ((nI_eq (b := 0) (by omega) (by omega)).mp hx)] at hQ; exact hQ
  · rw [if_neg (fun q => hx (by rw [q]; rfl))] at hQ; exact hQ
theorem inE_lt {N : Net} (hN : netOK N) {k : Nat} (hk : k < 2 * N.1) : inE N k < 8 := by
  have := hN.2 (k / 2) (by omega)
  unfold inE; split <;> omega
theorem ouE_lt {N : Net} (hN : netOK N) {k : Nat} (hk : k < 2 * N.1) : ouE N k < 8 := by
  have := hN.2 (k / 2) (by omega)
  unfold ouE; split <;> omega
theorem NM.wk {N : Net} {g g' : Sg} (h : NM N g) (hk : ∀ k, k ≠ 51 → k ≠ 52 → g' k = g k) : NM N g' := h.of (by rw [hk 34 (by decide) (by decide)]) (hk 40 (by decide) (by decide))
theorem Sm_walks {N : Net} {sh : Int32} {fr bl : Nat} {g0 : Sg} {Q : Sg → Prop} (hN : NM N g0) (h41 : g0 41 0 = sh) (hfr8 : fr < 8) (hbl : bl ≤ 6)
    (hq : ∀ g', (∀ k, k ≠ 51 → k ≠ 52 → g' k = g0 k) → (bl ≠ 0 → ∀ k, k < 2 * N.1 → g' 51 k = wk N sh fr (bl - 1) k) → Q g') : Cm_walks (nI fr) (nI bl) g0 Q := by
  have h16 := hN.1.1
  have two : 2 * nI N.1 = nI (2 * N.1) := pk_mul 2 N.1
  have main : ∀ (d i : Nat) (g : Sg), 1 ≤ i → (i + d = bl ∨ (bl < i ∧ d = 0 ∧ bl = 0 ∧ i = 1)) → (∀ k, k ≠ 51 → k ≠ 52 → g k = g0 k) → (∀ k, k < 2 * N.1 → g 51 k = wk N sh fr (i - 1) k) → Hm_walks_48 (nI bl) (nI i) g Q := by
    intro d
    induction d with
    | zero =>
      intro i g h1 hi hfr hw
      refine Vm_walks_48 (brT (nI_le (by omega) (by omega)) (hq g hfr (fun hb => ?_)))
      have : i = bl := by omega
      rw [← this]; exact hw
    | succ d ih =>
      intro i g h1 hi hfr hw
      refine Vm_walks_48 (brF (nI_ge (by omega) (by omega)) ?_)
      -- the copy
      have cpy : ∀ (c k : Nat) (g : Sg), k + c = 2 * N.1 → (∀ k, k ≠ 51 → k ≠ 52 → g k = g0 k) → (∀ j, j < 2 * N.1 → g 52 j = wk N sh fr i j) → (∀ j, j < k → g 51 j = wk N sh fr i j) → Hm_walks_160 (nI bl) (nI i) (nI k) g Q := by
        intro c
        induction c with
        | zero =>
          intro k g hk hfr ht hw
          have hk2 : k = 2 * N.1 := by omega
          refine Vm_walks_160 ?_
          rw [hfr 34 (by decide) (by decide), hN.2.1, two, hk2, nI_1]
          rw [hk2] at hw
          refine brT (nI_le (Nat.le_refl _) (by omega)) (ih (i + 1) g (by omega) (by omega) hfr ?_)
          rw [show i + 1 - 1 = i by omega]
          exact hw
        | succ c ih2 =>
          intro k g hk hfr ht hw
          have i32 : vp_in (nI k) 32 := vp_in_nI (by omega) (by omega)
          refine Vm_walks_160 ?_
          rw [hfr 34 (by decide) (by decide), hN.2.1, two, nI_clamp (show k < 2 ^ 31 by omega), nI_1 k, ht k (by omega)]
          refine brF (nI_ge (by omega) (by omega)) ⟨i32, i32, ih2 (k + 1) _ (by omega) (fun c h51 h52 => by funext j; rw [sg_k h51, hfr c h51 h52]) (fun j hj => by rw [sg_k (by decide)]; exact ht j hj) (fun j hj => ?_)⟩
          by_cases hjk : j = k
          · rw [hjk, sg_s]
          · rw [sg_j hjk]; exact hw j (by omega)
      have out : ∀ (c k : Nat) (g : Sg), k + c = 2 * N.1 → (∀ k, k ≠ 51 → k ≠ 52 → g k = g0 k) → (∀ j, j < 2 * N.1 → g 51 j = wk N sh fr (i - 1) j) → (∀ j, j < k → g 52 j = wk N sh fr i j) → Hm_walks_56 (nI bl) (nI i) (nI k) g Q := by
        intro c
        induction c with
        | zero =>
          intro k g hk hfr hw ht
          have hk2 : k = 2 * N.1 := by omega
          refine Vm_walks_56 ?_
          rw [hfr 34 (by decide) (by decide), hN.2.1, two, hk2]
          rw [hk2] at ht
          exact brT (nI_le (Nat.le_refl _) (by omega)) (cpy (2 * N.1) 0 g (by omega) hfr ht (fun j hj => absurd hj (by omega)))
        | succ c ih2 =>
          intro k g hk hfr hw ht
          have i32 : vp_in (nI k) 32 := vp_in_nI (by omega) (by omega)
          refine Vm_walks_56 ?_
          rw [hfr 34 (by decide) (by decide), hN.2.1, two, nI_clamp (show k < 2 ^ 31 by omega)]
          refine brF (nI_ge (by omega) (by omega)) ⟨i32, ?_⟩
          obtain ⟨i', hi'⟩ : ∃ i', i = i' + 1 := ⟨i - 1, by omega⟩
          have hi1 : i - 1 = i' := by omega
          have hwk : wk N sh fr i k = (if bt sh (k / 2) = true then 0 else s32 (2 * N.1) (fun j => if ¬ j / 2 = k / 2 ∧ ouE N j = inE N k then wk N sh fr (i - 1) j else 0)) := by rw [hi1, hi']; rfl
          have hk2 := (half (show k < 2 ^ 31 by omega)).1
          have inn : ∀ (b j : Nat) (g : Sg), j + b = 2 * N.1 → (∀ k, k ≠ 51 → k ≠ 52 → g k = g0 k) → (∀ j, j < 2 * N.1 → g 51 j = wk N sh fr (i - 1) j) → (∀ j, j < k → g 52 j = wk N sh fr i j) → (bt sh (k / 2) = true → j = 0) → g 52 k = s32 j (fun j => if ¬ j / 2 = k / 2 ∧ ouE N j = inE N k then wk N sh fr (i - 1) j else 0) → Hm_walks_78 (nI bl) (nI i) (nI k) (nI j) g Q := by
            intro b
            induction b with
            | zero =>
              intro j g hj hfr hw ht hz hs
              have hj2 : j = 2 * N.1 := by omega
              refine Vm_walks_78 ?_
              rw [hfr 34 (by decide) (by decide), hN.2.1, two, hj2, nI_1]
              refine brT (nI_le (Nat.le_refl _) (by omega)) (ih2 (k + 1) g (by omega) hfr hw (fun j' hj' => ?_))
              by_cases hjk : j' = k
              · rw [hjk, hwk, if_neg (fun q => by have := hz q; omega), ← hj2]; exact hs
              · exact ht j' (by omega)
            | succ b ih3 =>
              intro j g hj hfr hw ht hz hs
              have hj2 : j < 2 * N.1 := by omega
              have j32 : vp_in (nI j) 32 := vp_in_nI (by omega) (by omega)
              have hj2' := (half (show j < 2 ^ 31 by omega)).1
              refine Vm_walks_78 ?_
              rw [hfr 34 (by decide) (by decide), hN.2.1, two, hfr 41 (by decide) (by decide), h41, hk2, hj2', tbb_n _ (show k / 2 < 32 by omega), nI_1, nI_1, nI_clamp (show k < 2 ^ 31 by omega), nI_clamp (show j < 2 ^ 31 by omega), nI_eq (show j / 2 < 2 ^ 31 by omega) (show k / 2 < 2 ^ 31 by omega)]
              refine brF (nI_ge (by omega) (by omega)) ⟨fun ho => ⟨i32, ?_⟩, fun hc => ?_⟩
              · have e1 : s32 (j + 1) (fun j => if ¬ j / 2 = k / 2 ∧ ouE N j = inE N k then wk N sh fr (i - 1) j else 0) = s32 j (fun j => if ¬ j / 2 = k / 2 ∧ ouE N j = inE N k then wk N sh fr (i - 1) j else 0) + (if ¬ j / 2 = k / 2 ∧ ouE N j = inE N k then wk N sh fr (i - 1) j else 0) := rfl
                have step : ∀ y : Int32, y = (if ¬ j / 2 = k / 2 ∧ ouE N j = inE N k then wk N sh fr (i - 1) j else 0) → Hm_walks_78 (nI bl) (nI i) (nI k) (nI (j + 1)) (sgU g 52 k (g 52 k + y)) Q := by
                  intro y hy
                  refine ih3 (j + 1) _ (by omega) (fun c h51 h52 => by funext x; rw [sg_k h52, hfr c h51 h52]) (fun x hx => by rw [sg_k (by decide)]; exact hw x hx) (fun x hx => by rw [sg_j (by omega)]; exact ht x hx) (fun q => absurd q ho) ?_
                  rw [sg_s, e1, hs, hy]
                refine ⟨fun hq2 => ⟨i32, step 0 (by rw [if_neg (fun q => q.1 hq2)])⟩, fun hq2 => Sm_outAt (hN.wk hfr) hj2 (Sm_inAt (hN.wk hfr) (by omega) ?_)⟩
                have l1 := ouE_lt hN.1 hj2
                have l2 := inE_lt hN.1 (show k < 2 * N.1 by omega)
                rw [nI_eq (by omega) (by omega), hw j hj2]
                exact ⟨fun hq3 => ⟨j32, i32, step _ (by rw [if_pos ⟨hq2, hq3⟩])⟩, fun hq3 => ⟨i32, step 0 (by rw [if_neg (fun q => hq3 q.2)])⟩⟩
              · have hc' : bt sh (k / 2) = true := Classical.not_not.mp hc
                refine ih2 (k + 1) g (by omega) hfr hw (fun j' hj' => ?_)
                by_cases hjk : j' = k
                · rw [hjk, hwk, if_pos hc', hs, hz hc']; rfl
                · exact ht j' (by omega)
          refine inn (2 * N.1) 0 _ (by omega) (fun c h51 h52 => by funext x; rw [sg_k h52, hfr c h51 h52]) (fun x hx => by rw [sg_k (by decide)]; exact hw x hx) (fun x hx => by rw [sg_j (by omega)]; exact ht x hx) (fun _ => rfl) ?_
          rw [sg_s]; rfl
      exact out (2 * N.1) 0 g (by omega) hfr hw (fun j hj => absurd hj (by omega))
  have ini : ∀ (c k : Nat) (g : Sg), k + c = 2 * N.1 → (∀ k, k ≠ 51 → k ≠ 52 → g k = g0 k) → (∀ j, j < k → g 51 j = wk N sh fr 0 j) → Hm_walks_2 (nI fr) (nI bl) (nI k) g Q := by
    intro c
    induction c with
    | zero =>
      intro k g hk hfr hw
      have hk2 : k = 2 * N.1 := by omega
      refine Vm_walks_2 ?_
      rw [hfr 34 (by decide) (by decide), hN.2.1, two, hk2]
      rw [hk2] at hw
      refine brT (nI_le (Nat.le_refl _) (by omega)) ?_
      by_cases hb0 : bl = 0
      · exact main 0 1 g (by omega) (by omega) hfr hw
      · exact main (bl - 1) 1 g (by omega) (by omega) hfr hw
    | succ c ih =>
      intro k g hk hfr hw
      have i32 : vp_in (nI k) 32 := vp_in_nI (by omega) (by omega)
      have l2 := inE_lt hN.1 (show k < 2 * N.1 by omega)
      have step : ∀ y : Int32, y = wk N sh fr 0 k → Hm_walks_2 (nI fr) (nI bl) (nI (k + 1)) (sgU g 51 k y) Q := by
        intro y hy
        refine ih (k + 1) _ (by omega) (fun c h51 h52 => by funext x; rw [sg_k h51, hfr c h51 h52]) (fun j hj => ?_)
        by_cases hjk : j = k
        · rw [hjk, sg_s]; exact hy
        · rw [sg_j hjk]; exact hw j (by omega)
      have e : wk N sh fr 0 k = (if bt sh (k / 2) = false ∧ inE N k = fr then 1 else 0) := rfl
      refine Vm_walks_2 ?_
      rw [hfr 34 (by decide) (by decide), hN.2.1, two, hfr 41 (by decide) (by decide), h41, (half (show k < 2 ^ 31 by omega)).1, tbb_n _ (show k / 2 < 32 by omega), nI_1, nI_clamp (show k < 2 ^ 31 by omega)]
      refine brF (nI_ge (by omega) (by omega)) ⟨fun ho => Sm_inAt (hN.wk hfr) (by omega) ?_, fun hc => ⟨i32, step 0 ?_⟩⟩
      · have ho' : bt sh (k / 2) = false := by simpa using ho
        rw [nI_eq (by omega) (by omega)]
        exact ⟨fun hq2 => ⟨i32, step 1 (by rw [e, if_pos ⟨ho', hq2⟩])⟩, fun hq2 => ⟨i32, step 0 (by rw [e, if_neg (fun q => hq2 q.2)])⟩⟩
      · rw [e, if_neg (fun q => hc (by rw [q.1]; decide))]
  exact Vm_walks (ini (2 * N.1) 0 g0 (by omega) (fun _ _ _ => rfl) (fun j hj => absurd hj (by omega)))
theorem Sm_waysTo {N : Net} {sh : Int32} {fr bl e : Nat} {g : Sg} {Q : Int32 → Sg → Prop} (hN : NM N g) (hfr8 : fr < 8) (hbl : bl ≤ 6) (he : e < 8) (hw : bl ≠ 0 → ∀ k, k < 2 * N.1 → g 51 k = wk N sh fr (bl - 1) k) (hQ : Q (tt N sh fr bl e) g) : Cm_waysTo (nI fr) (nI bl) (nI e) g Q := by
  have h16 := hN.1.1
  have two : 2 * nI N.1 = nI (2 * N.1) := pk_mul 2 N.1
  refine Vm_waysTo ⟨fun h0 => ?_, fun h0 => ?_⟩
  · have hb : bl = 0 := (nI_eq (b := 0) (by omega) (by omega)).mp h0
    subst hb
    have e1 : tt N sh fr 0 e = (if fr = e then 1 else 0) := rfl
    rw [e1] at hQ
    rw [nI_eq (by omega) (by omega)]
    refine ⟨fun hx => ?_, fun hx => ?_⟩
    · rw [if_pos hx] at hQ; exact hQ
    · rw [if_neg hx] at hQ; exact hQ
  · have hb : bl ≠ 0 := fun q => h0 (by rw [q]; rfl)
    have hw := hw hb
    obtain ⟨b', hb'⟩ : ∃ b', bl = b' + 1 := ⟨bl - 1, by omega⟩
    have hb1 : bl - 1 = b' := by omega
    rw [hb1] at hw
    have hQ : Q (tot N sh fr b' e) g := by rw [hb'] at hQ; exact hQ
    have loop : ∀ (d k : Nat), k + d = 2 * N.1 → Hm_waysTo_21 (nI e) (s32 k (fun k => if ouE N k = e then wk N sh fr b' k else 0)) (nI k) g Q := by
      intro d
      induction d with
      | zero =>
        intro k hk
        have hk2 : k = 2 * N.1 := by omega
        refine Vm_waysTo_21 ?_
        rw [hN.2.1, two, hk2]
        exact brT (nI_le (Nat.le_refl _) (by omega)) hQ
      | succ d ih =>
        intro k hk
        have h1 := ih (k + 1) (by omega)
        have e1 : s32 (k + 1) (fun k => if ouE N k = e then wk N sh fr b' k else 0) = s32 k (fun k => if ouE N k = e then wk N sh fr b' k else 0) + (if ouE N k = e then wk N sh fr b' k else 0) := rfl
        rw [e1] at h1
        have l1 := ouE_lt hN.1 (show k < 2 * N.1 by omega)
        refine Vm_waysTo_21 ?_
        rw [hN.2.1, two, nI_1]
        refine brF (nI_ge (by omega) (by omega)) (Sm_outAt hN (by omega) ?_)
        rw [nI_eq (by omega) (by omega), nI_clamp (show k < 2 ^ 31 by omega), hw k (by omega)]
        refine ⟨fun hx => ⟨vp_in_nI (by omega) (by omega), ?_⟩, fun hx => ?_⟩
        · rw [if_pos hx] at h1; exact h1
        · rw [if_neg hx] at h1; exact h1
    exact loop (2 * N.1) 0 (by omega)
theorem Sm_heardOf {N : Net} {sh : Int32} {fr bl : Nat} {x3 : Int32} {g : Sg} {Q : Int32 → Sg → Prop} (hN : NM N g) (h41 : g 41 0 = sh) (hfr8 : fr < 8) (hbl : bl ≤ 6) (h3 : (-1) ≤ x3 ∧ x3 ≤ 7) (hQ : ∀ g', (∀ k, k ≠ 51 → k ≠ 52 → g' k = g k) → Q (hrd N sh fr bl x3) g') : Cm_heardOf (nI fr) (nI bl) x3 g Q := by
  refine Vm_heardOf (Sm_walks hN h41 hfr8 hbl (fun g1 hf1 hw => ?_))
  have hq := hQ g1 hf1
  have hN1 := hN.wk hf1
  unfold hrd at hq
  refine ⟨fun hx => ?_, fun hx => ?_⟩
  · rw [if_pos hx] at hq
    have loop : ∀ (d e : Nat), e + d = 8 → Hm_heardOf_25 (nI fr) (nI bl) (psE (tt N sh fr bl) e) (nI e) g1 Q := by
      intro d
      induction d with
      | zero =>
        intro e he
        have : e = 8 := by omega
        subst this
        exact Vm_heardOf_25 (brT (by decide) hq)
      | succ d ih =>
        intro e he
        have h1 := ih (e + 1) (by omega)
        have e1 : psE (tt N sh fr bl) (e + 1) = psE (tt N sh fr bl) e ||| (if (!decide (tt N sh fr bl e ≤ 0)) = true then sb (nI e) else 0) := rfl
        rw [e1] at h1
        refine Vm_heardOf_25 (brF (fun hx => ?_) (Sm_waysTo hN1 hfr8 hbl (by omega) hw ?_))
        · have : 8 ≤ e := (nI_leI (a := 8) (b := e) (by omega) (by omega)).mp hx
          omega
        · rw [nI_1]
          refine ⟨fun hx => ?_, fun hx => ?_⟩
          · rw [if_neg (by simp [hx])] at h1; exact h1
          · rw [if_pos (by simp [hx])] at h1; exact h1
    exact loop 8 0 (by omega)
  · rw [if_neg hx] at hq
    rcases m1_7 h3 with h | ⟨e, he, rfl⟩
    · exact absurd h hx
    · rw [nI_clamp (show e < 2 ^ 31 by omega)] at hq
      exact Sm_waysTo hN1 hfr8 hbl he hw hq
theorem Kp.rd {g g' : Sg} (h1 : ∀ c, c ≠ 34 → c ≠ 40 → g' c = g c) (h2 : ∀ j, j ≠ 7 → j ≠ 8 → g' 34 j = g 34 j) : Kp scA g g' := fun k j hk => by
  by_cases h34 : k = 34
  · subst h34
    simp [scA] at hk
    exact h2 j (by omega) (by omega)
  · have h40 : k ≠ 40 := fun hx => by subst hx; simp [scA] at hk
    rw [h1 k h34 h40]
theorem Kp.w2 {g g' : Sg} {a b : Nat} (h : ∀ k, k ≠ a → k ≠ b → g' k = g k) (ha : ∀ j, scA a j = true) (hb : ∀ j, scA b j = true) : Kp scA g g' := fun k j hk => by
  rw [h k (fun hx => by subst hx; rw [ha j] at hk; cases hk) (fun hx => by subst hx; rw [hb j] at hk; cases hk)]
theorem op_heard {x1 x2 x3 : Int32} {g : Sg} {Q : Int32 → Int32 → Sg → Prop} (hR : Rel g) (hQ : ∀ r g', Rel g' → Q r r g') : Cx_heard x1 x2 x3 g (fun r g1 => Cm_heard x1 x2 x3 g1 (fun r' g2 => Q r r' g2)) := by
  obtain ⟨⟨bv, n, sh, tk, hd, m, f, t, hX⟩, hJ, hSh⟩ := id hR
  by_cases h1 : isE x1
  · by_cases h2 : 0 ≤ x2 ∧ x2 ≤ 6
    · by_cases h3 : (-1) ≤ x3 ∧ x3 ≤ 7
      · obtain ⟨fr, hfr, rfl⟩ := isE_of h1
        obtain ⟨bl, hbl, rfl⟩ := rng (n := 6) (by omega) h2
        refine Sx_heard hX hfr hbl h3 (fun g1 hk1 => Vm_heard (Sm_reads (hX.sc hk1).2.1 _ (fun g2 f1 f2 hN2 => brT h1 (brT h2 (brT h3 ?_)))))
        have hk2 := Kp.rd f1 f2
        refine Sm_heardOf hN2 ?_ hfr hbl h3 (fun g3 hf3 => hQ _ _ (((hR.sc hk1).sc hk2).sc (Kp.w2 hf3 (fun _ => rfl) (fun _ => rfl))))
        rw [hk2 41 0 rfl, hk1 41 0 rfl]; exact hX.2.2.1.2.1
      · exact Vx_heard (brT h1 (brT h2 (brF h3 (Vm_heard (Sm_reads hX.2.1 _ (fun g2 f1 f2 hN2 => brT h1 (brT h2 (brF h3 (hQ _ _ (hR.sc (Kp.rd f1 f2)))))))))))
    · exact Vx_heard (brT h1 (brF h2 (Vm_heard (Sm_reads hX.2.1 _ (fun g2 f1 f2 hN2 => brT h1 (brF h2 (hQ _ _ (hR.sc (Kp.rd f1 f2)))))))))
  · exact Vx_heard (brF h1 (Vm_heard (Sm_reads hX.2.1 _ (fun g2 f1 f2 hN2 => brF h1 (hQ _ _ (hR.sc (Kp.rd f1 f2)))))))
