/-! the text in the class -/
def TC (bv : Nat → Nat) (n : Nat) (g : Sg) : Prop := g 1 5 = nI n ∧ (∀ i, i < n → g 2 i = nI (bv i)) ∧ (∀ i, i < n → bv i < 256) ∧ n ≤ 79 ∧ g 1 6 = wr bv n ∧ g 1 7 = flt bv n ∧ g 1 8 = nI (mny bv n) ∧
  ∀ p, 5 * p + 3 < n → wr bv (5 * p + 4) = -1 → g 3 p = nI (bv (5 * p) - 97) ∧ g 4 p = nI (bv (5 * p + 1) - 97) ∧ g 5 p = nI (bv (5 * p + 2) - 48) ∧ g 6 p = nI (bv (5 * p + 3) - 48)
theorem wr_pre {bv : Nat → Nat} {n m : Nat} (hn : n < 2 ^ 31) (h : wr bv n = -1) (hm : m ≤ n) : wr bv m = -1 := wr_all m (fun i hi => wr_ok hn h i (by omega))
theorem mny_wr {bv : Nat → Nat} {n : Nat} (hn : n < 2 ^ 31) (h : mny bv n ≠ 0) : wr bv n = -1 ∧ flt bv n = -1 ∧ mny bv n = (n + 1) / 5 := by
  unfold mny at h ⊢
  split at h
  · rename_i hf
    refine ⟨?_, hf, by rw [if_pos hf]⟩
    unfold flt at hf
    split at hf
    · exact absurd hf (nI_m1 hn)
    · exact hf
  · exact absurd rfl h
theorem TC.net {bv : Nat → Nat} {n : Nat} {g : Sg} (h : TC bv n g) : NC (NT bv n) g := by
  obtain ⟨-, -, -, h4, -, -, h7, h8⟩ := h
  refine ⟨NT_ok h4, h7, fun p hp => ?_⟩
  have hp' : p < mny bv n := hp
  obtain ⟨w1, -, w3⟩ := mny_wr (bv := bv) (n := n) (by omega) (by omega)
  exact h8 p (by omega) (wr_pre (by omega) w1 (by omega))
theorem okb_cg {bv bw : Nat → Nat} {n : Nat} (h : ∀ i, i < n → bv i = bw i) {i : Nat} (hi : i < n) : okb bv i = okb bw i := by
  unfold okb
  rw [h i hi]
  by_cases h1 : i % 5 = 1
  · rw [h (i - 1) (by omega)]
  · rw [if_neg h1, if_neg h1]
theorem wr_cg {bv bw : Nat → Nat} : ∀ n : Nat, (∀ i, i < n → bv i = bw i) → wr bv n = wr bw n := by
  intro n
  induction n with
  | zero => intro _; rfl
  | succ n ih =>
    intro h
    show (if wr bv n = -1 ∧ okb bv n = false then nI n else wr bv n) = (if wr bw n = -1 ∧ okb bw n = false then nI n else wr bw n)
    rw [ih (fun i hi => h i (by omega)), okb_cg h (by omega)]
theorem rem5 {n : Nat} (hn : n < 2 ^ 31) : nI n - nI n / 5 * 5 = nI (n % 5) := pk_rem (d := 5) hn (by omega) (by omega)
theorem div5 {n : Nat} (hn : n < 2 ^ 31) : nI n / 5 = nI (n / 5) := pk_div (d := 5) hn (by omega) (by omega)
theorem Sp_settle {bv : Nat → Nat} {n : Nat} {g : Sg} {Q : Sg → Prop} (hn : n ≤ 79) (h5 : g 1 5 = nI n) (h6 : g 1 6 = wr bv n) (h : Q (sgU (sgU g 1 7 (flt bv n)) 1 8 (nI (mny bv n)))) : Cp_settle g Q := by
  refine Vp_settle ?_
  rw [h5, h6, rem5 (by omega), nI_1, div5 (by omega)]
  by_cases hw : wr bv n = -1
  · by_cases h0 : n = 0
    · obtain ⟨f1, f2⟩ := flt_ok (bv := bv) (n := n) hw (by unfold ended; simp [h0])
      rw [f1, f2] at h
      refine brT (by rw [h0]; rfl) (brT hw (brT hw ?_))
      rw [hw]; exact h
    · refine brF (fun hx => h0 ((nI_eq (a := n) (b := 0) (by omega) (by omega)).mp hx)) ?_
      by_cases h4 : n % 5 = 4
      · obtain ⟨f1, f2⟩ := flt_ok (bv := bv) (n := n) hw (by unfold ended; simp [h4])
        rw [f1, f2] at h
        refine brT (by rw [h4]; rfl) (brT hw (brT hw ?_))
        rw [hw]; exact h
      · obtain ⟨f1, f2⟩ := flt_un (bv := bv) (n := n) (by omega) hw (by unfold ended; simp [h0, h4])
        rw [f1, f2] at h
        exact brF (fun hx => h4 ((nI_eq (a := n % 5) (b := 4) (by omega) (by omega)).mp hx)) (brT hw (brF (nI_m1 (by omega)) h))
  · have f1 : flt bv n = wr bv n := by unfold flt; rw [if_neg (fun hx => hw hx.1)]
    have f2 : mny bv n = 0 := by unfold mny; rw [f1, if_neg hw]
    rw [f1, f2] at h
    by_cases h0 : n = 0
    · exact brT (by rw [h0]; rfl) (brF hw (brF hw h))
    · refine brF (fun hx => h0 ((nI_eq (a := n) (b := 0) (by omega) (by omega)).mp hx)) ?_
      by_cases h4 : n % 5 = 4
      · exact brT (by rw [h4]; rfl) (brF hw (brF hw h))
      · exact brF (fun hx => h4 ((nI_eq (a := n % 5) (b := 4) (by omega) (by omega)).mp hx)) (brF hw (brF hw h))
theorem bt97 {y lo hi : Nat} (hy : y < 256) (hl : lo < 2 ^ 31) (hh : hi < 2 ^ 31) : (nI lo ≤ nI y ∧ nI y ≤ nI hi) ↔ (lo ≤ y ∧ y ≤ hi) := by
  rw [nI_leI hl (by omega), nI_leI (by omega) hh]
theorem bP_cg {P R : Prop} [Decidable P] [Decidable R] (h : P ↔ R) : bP P = bP R := by
  unfold bP
  by_cases hp : P
  · rw [if_pos hp, if_pos (h.mp hp)]
  · rw [if_neg hp, if_neg (fun hr => hp (h.mpr hr))]
theorem Sp_fits {bv : Nat → Nat} {n : Nat} {g : Sg} {Q : Int32 → Sg → Prop} (hn : n < 79) (ht : ∀ i, i ≤ n → g 2 i = nI (bv i)) (hb : ∀ i, i ≤ n → bv i < 256) (h : Q (bP (okb bv n = true)) g) : Cp_fits (nI n) g Q := by
  have hy := hb n (Nat.le_refl _)
  have fin : ∀ P : Prop, [Decidable P] → (P ↔ okb bv n = true) → Q (bP P) g := fun P _ hP => by rw [bP_cg hP]; exact h
  refine Vp_fits ⟨vp_in_nI hn (by omega), ?_⟩
  rw [rem5 (by omega), nI_clamp (show n < 2 ^ 31 by omega), ht n (Nat.le_refl _), nI_toInt (by omega)]
  refine ⟨fun hx => ?_, fun hx => ?_, fun hx => ?_, fun hx => ?_, fun hx => ?_⟩
  · have h4 : n % 5 = 4 := by omega
    have e1 : okb bv n = decide (bv n = 59) := by unfold okb; rw [if_neg (by omega), if_neg (by omega), if_neg (by omega), if_neg (by omega)]
    have e2 : (nI (bv n) = 59) ↔ okb bv n = true := by
      rw [e1, decide_eq_true_iff]
      exact nI_eq (a := bv n) (b := 59) (by omega) (by omega)
    exact lf_if (fin (nI (bv n) = 59) e2)
  · have h0 : n % 5 = 0 := (nI_eq (a := n % 5) (b := 0) (by omega) (by omega)).mp hx
    refine ⟨bP_1 _, fin _ ?_⟩
    have e1 : okb bv n = decide (97 ≤ bv n ∧ bv n ≤ 104) := by unfold okb; rw [if_pos h0]
    rw [e1, decide_eq_true_iff]
    exact bt97 (lo := 97) (hi := 104) hy (by omega) (by omega)
  · have h1 : n % 5 = 1 := (nI_eq (a := n % 5) (b := 1) (by omega) (by omega)).mp hx
    have e1 : okb bv n = decide ((97 ≤ bv n ∧ bv n ≤ 104) ∧ bv n ≠ bv (n - 1)) := by unfold okb; rw [if_neg (by omega), if_pos h1]
    have e3 := bt97 (y := bv n) (lo := 97) (hi := 104) hy (by omega) (by omega)
    have hs : nI n - 1 = nI (n - 1) := pk_sub (a := n) (b := 1) (by omega)
    rw [hs, nI_clamp (show n - 1 < 2 ^ 31 by omega), ht (n - 1) (by omega)]
    have hy1 := hb (n - 1) (by omega)
    by_cases hc : 97 ≤ bv n ∧ bv n ≤ 104
    · refine brT (e3.mpr hc) ⟨vp_in_nI (by omega) (by omega), ?_⟩
      by_cases hne : bv n = bv (n - 1)
      · refine brT (by rw [hne]) ?_
        have : okb bv n = false := by rw [e1]; exact decide_eq_false (fun hz => hz.2 hne)
        rw [this, bP_f (by decide)] at h
        exact h
      · refine brF (fun hz => hne ((nI_eq (by omega) (by omega)).mp hz)) ?_
        have : okb bv n = true := by rw [e1]; exact decide_eq_true ⟨hc, hne⟩
        rw [bP_t this] at h
        exact h
    · refine brF (fun hz => hc (e3.mp hz)) ?_
      have : okb bv n = false := by rw [e1]; exact decide_eq_false (fun hz => hc hz.1)
      rw [this, bP_f (by decide)] at h
      exact h
  · have h2 : n % 5 = 2 := (nI_eq (a := n % 5) (b := 2) (by omega) (by omega)).mp hx
    refine ⟨bP_1 _, fin _ ?_⟩
    have e1 : okb bv n = decide (49 ≤ bv n ∧ bv n ≤ 57) := by unfold okb; rw [if_neg (by omega), if_neg (by omega), if_pos h2]
    rw [e1, decide_eq_true_iff]
    exact bt97 (lo := 49) (hi := 57) hy (by omega) (by omega)
  · have h3 : n % 5 = 3 := (nI_eq (a := n % 5) (b := 3) (by omega) (by omega)).mp hx
    refine ⟨bP_1 _, fin _ ?_⟩
    have e1 : okb bv n = decide (48 ≤ bv n ∧ bv n ≤ 57) := by unfold okb; rw [if_neg (by omega), if_neg (by omega), if_neg (by omega), if_pos h3]
    rw [e1, decide_eq_true_iff]
    exact bt97 (lo := 48) (hi := 57) hy (by omega) (by omega)
theorem Sp_takeUp {bv : Nat → Nat} {q : Nat} {g : Sg} {Q : Sg → Prop} (hq : 5 * q + 3 < 79) (ht : ∀ i, i ≤ 5 * q + 3 → g 2 i = nI (bv i)) (hok : ∀ i, i ≤ 5 * q + 3 → okb bv i = true)
    (hk : ∀ g', (∀ c, c ≠ 3 → c ≠ 4 → c ≠ 5 → c ≠ 6 → g' c = g c) → (∀ p, p ≠ q → g' 3 p = g 3 p ∧ g' 4 p = g 4 p ∧ g' 5 p = g 5 p ∧ g' 6 p = g 6 p) → g' 3 q = nI (bv (5 * q) - 97) ∧ g' 4 q = nI (bv (5 * q + 1) - 97) ∧ g' 5 q = nI (bv (5 * q + 2) - 48) ∧ g' 6 q = nI (bv (5 * q + 3) - 48) → Q g') : Cp_takeUp (nI q) g Q := by
  have o0 := hok (5 * q) (by omega)
  have o1 := hok (5 * q + 1) (by omega)
  have o2 := hok (5 * q + 2) (by omega)
  have o3 := hok (5 * q + 3) (by omega)
  rw [okb0] at o0; rw [okb1] at o1; rw [okb2] at o2; rw [okb3] at o3
  have k0 := of_decide_eq_true o0
  have k1 := (of_decide_eq_true o1).1
  have k2 := of_decide_eq_true o2
  have k3 := of_decide_eq_true o3
  have i16 : vp_in (nI q) 16 := vp_in_nI (by omega) (by omega)
  refine Vp_takeUp (brT (rng' (n := 15) (by omega) (by omega)) ?_)
  rw [show nI q * 5 = nI (5 * q) by rw [show nI q * 5 = nI (q * 5) from pk_mul q 5, Nat.mul_comm], show nI (5 * q) + 1 = nI (5 * q + 1) from nI_add _ 1, show nI (5 * q) + 2 = nI (5 * q + 2) from nI_add _ 2, show nI (5 * q) + 3 = nI (5 * q + 3) from nI_add _ 3]
  refine brT ((nI_ltI (a := 5 * q + 3) (b := 79) (by omega) (by omega)).mpr hq) ⟨vp_in_nI (by omega) (by omega), i16, vp_in_nI (by omega) (by omega), i16, vp_in_nI (by omega) (by omega), i16, vp_in_nI (by omega) (by omega), i16, ?_⟩
  rw [nI_clamp (show q < 2 ^ 31 by omega), nI_clamp (show 5 * q < 2 ^ 31 by omega), nI_clamp (show 5 * q + 1 < 2 ^ 31 by omega), nI_clamp (show 5 * q + 2 < 2 ^ 31 by omega), nI_clamp (show 5 * q + 3 < 2 ^ 31 by omega), ht _ (show 5 * q ≤ 5 * q + 3 by omega), ht _ (show 5 * q + 1 ≤ 5 * q + 3 by omega), ht _ (show 5 * q + 2 ≤ 5 * q + 3 by omega), ht _ (Nat.le_refl _)]
  rw [show nI (bv (5 * q)) - 97 = nI (bv (5 * q) - 97) from pk_sub (b := 97) k0.1, show nI (bv (5 * q + 1)) - 97 = nI (bv (5 * q + 1) - 97) from pk_sub (b := 97) k1.1, show nI (bv (5 * q + 2)) - 48 = nI (bv (5 * q + 2) - 48) from pk_sub (b := 48) (Nat.le_trans (by decide) k2.1), show nI (bv (5 * q + 3)) - 48 = nI (bv (5 * q + 3) - 48) from pk_sub (b := 48) k3.1]
  refine hk _ (fun c c3 c4 c5 c6 => by funext j; rw [sg_k c6, sg_k c5, sg_k c4, sg_k c3]) (fun p hp => ⟨?_, ?_, ?_, ?_⟩) ⟨?_, ?_, ?_, ?_⟩
  · rw [sg_k (by decide), sg_k (by decide), sg_k (by decide), sg_j hp]
  · rw [sg_k (by decide), sg_k (by decide), sg_j hp, sg_k (by decide)]
  · rw [sg_k (by decide), sg_j hp, sg_k (by decide), sg_k (by decide)]
  · rw [sg_j hp, sg_k (by decide), sg_k (by decide), sg_k (by decide)]
  · rw [sg_k (by decide), sg_k (by decide), sg_k (by decide), sg_s]
  · rw [sg_k (by decide), sg_k (by decide), sg_s]
  · rw [sg_k (by decide), sg_s]
  · rw [sg_s]
