/-! the sheets -/
def zf (g : Sg) (c lo hi : Nat) : Sg := sgC g c (fun j => if lo ≤ j ∧ j < hi then 0 else g c j)
theorem zf_e (g : Sg) (c hi : Nat) : zf g c hi hi = g := by
  funext k j
  by_cases h : k = c
  · subst h; simp [zf, sgC]; intro h1 h2; omega
  · simp [zf, sgC, h]
theorem zf_u (g : Sg) (c lo hi : Nat) (h : lo < hi) : zf (sgU g c lo 0) c (lo + 1) hi = zf g c lo hi := by
  funext k j
  by_cases hk : k = c
  · subst hk
    simp only [zf, sgC, sgU, upd, if_true]
    by_cases h1 : j = lo
    · subst h1; rw [if_neg (by omega), if_pos rfl, if_pos (by omega)]
    · by_cases h2 : lo ≤ j ∧ j < hi
      · rw [if_pos (by omega), if_pos h2]
      · rw [if_neg (by omega), if_neg h1, if_neg h2]
  · simp [zf, sgC, sgU, hk]
theorem zf_in {g : Sg} {c lo hi j : Nat} (h : lo ≤ j) (h2 : j < hi) : zf g c lo hi c j = 0 := by simp [zf, sgC, h, h2]
theorem zf_out {g : Sg} {c lo hi j : Nat} (h : j < lo ∨ hi ≤ j) : zf g c lo hi c j = g c j := by
  simp only [zf, sgC, if_true]
  rw [if_neg (by omega)]
theorem zf_k {g : Sg} {c lo hi k j : Nat} (h : k ≠ c) : zf g c lo hi k j = g k j := by simp [zf, sgC, h]
theorem cl60 {s i : Nat} (hs : s < 4) (hi : i < 60) : (nI s * 60 + nI i).toNatClampNeg = s * 60 + i ∧ vp_in (nI s * 60 + nI i) 240 := by
  rw [mulL, nI_add]
  exact ⟨nI_clamp (by omega), vp_in_nI (by omega) (by omega)⟩
theorem cr60 {s i : Nat} (hs : s < 4) (hi : i < 60) : (60 * nI s + nI i).toNatClampNeg = s * 60 + i ∧ vp_in (60 * nI s + nI i) 240 := by
  rw [mulR, nI_add]
  exact ⟨by rw [nI_clamp (by omega)]; omega, vp_in_nI (by omega) (by omega)⟩
theorem renew_loop {s n : Nat} (hs : s < 4) (hn : n ≤ 60) {Q : Sg → Prop} : ∀ (d k : Nat) (g : Sg), k + d = n → Q (zf g 31 (s * 60 + k) (s * 60 + n)) → Hs_renew_17 (nI s) (nI n) (nI k) g Q := by
  intro d
  induction d with
  | zero =>
    intro k g hk hq
    have : k = n := by omega
    subst this
    rw [zf_e] at hq
    exact Vs_renew_17 (brT (nI_le (Nat.le_refl _) (by omega)) hq)
  | succ d ih =>
    intro k g hk hq
    refine Vs_renew_17 (brF (nI_ge (by omega) (by omega)) ?_)
    obtain ⟨e1, e2⟩ := cl60 hs (show k < 60 by omega)
    refine ⟨e2, ?_⟩
    rw [e1, nI_1]
    refine ih (k + 1) _ (by omega) ?_
    rw [← Nat.add_assoc, zf_u _ _ _ _ (by omega)]
    exact hq
theorem sheetM_loop {s n : Nat} (hs : s < 4) (hn : n ≤ 60) {Q : Int32 → Sg → Prop} : ∀ (d k : Nat) (g : Sg), k + d = n → Q (nI n) (zf g 37 (s * 60 + k) (s * 60 + n)) → Hm_sheet_55 (nI s) (nI n) (nI k) g Q := by
  intro d
  induction d with
  | zero =>
    intro k g hk hq
    have : k = n := by omega
    subst this
    rw [zf_e] at hq
    exact Vm_sheet_55 (brT (nI_le (Nat.le_refl _) (by omega)) hq)
  | succ d ih =>
    intro k g hk hq
    refine Vm_sheet_55 (brF (nI_ge (by omega) (by omega)) ?_)
    obtain ⟨e1, e2⟩ := cr60 hs (show k < 60 by omega)
    refine ⟨e2, ?_⟩
    rw [e1, nI_1]
    refine ih (k + 1) _ (by omega) ?_
    rw [← Nat.add_assoc, zf_u _ _ _ _ (by omega)]
    exact hq
def shOK (g : Sg) (s : Nat) : Prop := (g 32 s = -1 ∧ g 35 s = -1) ∨ ∃ f n : Nat, f ≤ 2 ∧ n ≤ 60 ∧ g 32 s = nI f ∧ g 35 s = nI f ∧ g 33 s = nI n ∧ g 36 s = nI n ∧ ∀ i, i < n → g 31 (s * 60 + i) = g 37 (s * 60 + i)
def RS (g : Sg) : Prop := g 30 3 = g 34 4 ∧ ∀ s, s < 4 → shOK g s
/-- what the calls on sheets may change -/
def cSh (k j : Nat) : Bool := k == 31 || k == 32 || k == 33 || k == 35 || k == 36 || k == 37 || k == 38 || (k == 30 && j == 3) || (k == 34 && j == 4)
theorem shOK.of {g g' : Sg} {s : Nat} (h : shOK g s) (h32 : g' 32 s = g 32 s) (h35 : g' 35 s = g 35 s) (h33 : g' 33 s = g 33 s) (h36 : g' 36 s = g 36 s) (h31 : ∀ i, i < 60 → g' 31 (s * 60 + i) = g 31 (s * 60 + i)) (h37 : ∀ i, i < 60 → g' 37 (s * 60 + i) = g 37 (s * 60 + i)) : shOK g' s := by
  rcases h with ⟨a, b⟩ | ⟨f, n, a1, a2, a3, a4, a5, a6, a7⟩
  · exact Or.inl ⟨h32.trans a, h35.trans b⟩
  · exact Or.inr ⟨f, n, a1, a2, h32.trans a3, h35.trans a4, h33.trans a5, h36.trans a6, fun i hi => by rw [h31 i (by omega), h37 i (by omega)]; exact a7 i hi⟩
/-- a finding on both sides -/
theorem RS.find {g : Sg} (h : RS g) (x : Int32) : RS (sgU (sgU g 30 3 x) 34 4 x) := by
  refine ⟨?_, fun s hs => ?_⟩
  · rw [sg_k (by decide), sg_s, sg_s]
  · refine (h.2 s hs).of ?_ ?_ ?_ ?_ (fun i _ => ?_) (fun i _ => ?_) <;> rw [sg_k (by decide), sg_k (by decide)]
theorem Kp.find (g : Sg) (x : Int32) : Kp cSh g (sgU (sgU g 30 3 x) 34 4 x) := ((Kp.rf cSh g).u rfl).u rfl
theorem op_sheet {x1 x2 x3 : Int32} {g : Sg} {Q : Int32 → Int32 → Sg → Prop} (hR : RS g) (hQ : ∀ r g', RS g' → Kp cSh g g' → Q r r g') : Cx_sheet x1 x2 x3 g (fun r g1 => Cm_sheet x1 x2 x3 g1 (fun r' g2 => Q r r' g2)) := by
  refine Vx_sheet ?_
  by_cases hs : isS x1
  · refine brT hs ?_
    by_cases hf : isF x2
    · refine brT hf ?_
      by_cases h60 : x3 ≤ 60
      · refine brT h60 ?_
        by_cases h0 : 0 ≤ x3
        · refine brT h0 ?_
          obtain ⟨s, hs4, rfl⟩ := isS_of hs
          obtain ⟨f, hf2, rfl⟩ := rng (n := 2) (by omega) hf
          obtain ⟨n, hn, rfl⟩ := rng (n := 60) (by omega) ⟨h0, h60⟩
          have hin : vp_in (nI s) 4 := vp_in_nI hs4 (by omega)
          refine Vs_renew ⟨hin, hin, ?_⟩
          refine renew_loop hs4 hn n 0 _ (by omega) ?_
          refine Vm_sheet (brT hs (brT hf (brT h60 (brT h0 ⟨hin, hin, ?_⟩))))
          refine sheetM_loop hs4 hn n 0 _ (by omega) ?_
          rw [nI_clamp (by omega)]
          simp only [Nat.add_zero]
          refine hQ _ _ ⟨?_, fun s' hs' => ?_⟩ ?_
          · rw [zf_k (by decide), sg_k (by decide), sg_k (by decide), zf_k (by decide), sg_k (by decide), sg_k (by decide), zf_k (by decide), sg_k (by decide), sg_k (by decide), zf_k (by decide), sg_k (by decide), sg_k (by decide)]
            exact hR.1
          · by_cases e : s' = s
            · subst e
              refine Or.inr ⟨f, n, hf2, hn, ?_, ?_, ?_, ?_, fun i hi => ?_⟩
              · rw [zf_k (by decide), sg_k (by decide), sg_k (by decide), zf_k (by decide), sg_k (by decide), sg_s]
              · rw [zf_k (by decide), sg_k (by decide), sg_s]
              · rw [zf_k (by decide), sg_k (by decide), sg_k (by decide), zf_k (by decide), sg_s]
              · rw [zf_k (by decide), sg_s]
              · rw [zf_in (by omega) (by omega), zf_k (by decide), sg_k (by decide), sg_k (by decide), zf_in (by omega) (by omega)]
            · refine (hR.2 s' hs').of ?_ ?_ ?_ ?_ (fun i hi => ?_) (fun i hi => ?_)
              · rw [zf_k (by decide), sg_k (by decide), sg_k (by decide), zf_k (by decide), sg_k (by decide), sg_j e]
              · rw [zf_k (by decide), sg_k (by decide), sg_j e, zf_k (by decide), sg_k (by decide), sg_k (by decide)]
              · rw [zf_k (by decide), sg_k (by decide), sg_k (by decide), zf_k (by decide), sg_j e, sg_k (by decide)]
              · rw [zf_k (by decide), sg_j e, sg_k (by decide), zf_k (by decide), sg_k (by decide), sg_k (by decide)]
              · rw [zf_k (by decide), sg_k (by decide), sg_k (by decide), zf_out (by omega), sg_k (by decide), sg_k (by decide)]
              · rw [zf_out (by omega), sg_k (by decide), sg_k (by decide), zf_k (by decide), sg_k (by decide), sg_k (by decide)]
          · intro k j hk
            have hk' : k ≠ 31 ∧ k ≠ 32 ∧ k ≠ 33 ∧ k ≠ 35 ∧ k ≠ 36 ∧ k ≠ 37 := by
              simp [cSh] at hk
              omega
            rw [zf_k (by omega), sg_k (by omega), sg_k (by omega), zf_k (by omega), sg_k (by omega), sg_k (by omega)]
        · refine brF h0 ?_
          refine Vm_sheet (brT hs (brT hf (brT h60 (brF h0 ?_))))
          exact hQ _ _ (hR.find 5) (Kp.find g 5)
      · refine brF h60 (Vm_sheet (brT hs (brT hf (brF h60 (hQ _ _ hR (Kp.rf _ _))))))
    · exact brF hf (Vm_sheet (brT hs (brF hf (hQ _ _ hR (Kp.rf _ _)))))
  · exact brF hs (Vm_sheet (brF hs (hQ _ _ hR (Kp.rf _ _))))
