/-! the reference's reads() -/
theorem flt_wr {bv : Nat → Nat} {n j : Nat} (hj : j < 2 ^ 31) (h : wr bv n = nI j) : flt bv n = nI j ∧ mny bv n = 0 := by
  have h1 : flt bv n = nI j := by
    unfold flt
    rw [h, if_neg (fun hx => nI_m1 hj hx.1)]
  refine ⟨h1, ?_⟩
  unfold mny
  rw [h1, if_neg (nI_m1 hj)]
theorem flt_un {bv : Nat → Nat} {n : Nat} (hn : n < 2 ^ 31) (h : wr bv n = -1) (he : ended n = false) : flt bv n = nI n ∧ mny bv n = 0 := by
  have h1 : flt bv n = nI n := by
    unfold flt
    rw [if_pos ⟨h, he⟩]
  refine ⟨h1, ?_⟩
  unfold mny
  rw [h1, if_neg (nI_m1 hn)]
theorem flt_ok {bv : Nat → Nat} {n : Nat} (h : wr bv n = -1) (he : ended n = true) : flt bv n = -1 ∧ mny bv n = (n + 1) / 5 := by
  have h1 : flt bv n = -1 := by
    unfold flt
    rw [if_neg (fun hx => by rw [he] at hx; exact absurd hx.2 (by decide)), h]
  refine ⟨h1, ?_⟩
  unfold mny
  rw [h1, if_pos rfl]
theorem NM_0 {bv : Nat → Nat} {n : Nat} {g : Sg} (hn : n ≤ 79) (h : mny bv n = 0) (h8 : g 34 8 = 0) : NM (NT bv n) g := by
  have h1 : (NT bv n).1 = 0 := h
  refine ⟨NT_ok hn, by rw [h8, h1]; rfl, fun p hp => ?_⟩
  rw [h1] at hp
  exact absurd hp (by omega)
theorem Sm_reads {bv : Nat → Nat} {n : Nat} {g0 : Sg} (hT : TM bv n g0) : RdM (NT bv n) (flt bv n) g0 := by
  intro Q hQ'
  have hn79 := hT.2.2.2
  have hQ : ∀ g', frR g0 g' → NM (NT bv n) g' → Q (flt bv n) g' := fun g' hf hN => hQ' g' hf.1 hf.2 hN
  have zero8 : ∀ g', frR g0 g' → mny bv n = 0 → Q (flt bv n) (sgU g' 34 8 0) := fun g' hf hm => hQ _ ⟨fun c c34 c40 => by funext j; rw [sg_k c34, hf.1 c c34 c40], fun j j7 j8 => by rw [sg_j j8]; exact hf.2 j j7 j8⟩ (NM_0 hn79 hm (by rw [sg_s]))
  have loop : ∀ (m q : Nat) (g : Sg), q + m = 16 → frR g0 g → PM bv q g → g 34 7 = nI (5 * q) → g 34 8 = nI q → 5 * q ≤ n → 0 < n → (∀ i, i < 5 * q → okb bv i = true) → Hm_reads_23 1 g Q := by
    intro m
    induction m with
    | zero => intro q g hqm _ _ _ _ hle _ _; omega
    | succ m ih =>
      intro q g hqm hfr hP h7 h8 hle hpos hok
      refine Vm_reads_23 (brF (by decide) (Vm_readsPipe (brF (fun hx => ?_) ?_)))
      · rw [h8] at hx
        have := (nI_eq (a := q) (b := 16) (by omega) (by omega)).mp hx
        omega
      · refine rp_loop hT hle hok (fun g' hf' hP' h7' h8' hle' hok' => br1 ?_) (fun g' i hf' h7' hi1 hi2 hok' hbad => br0 ?_) 4 0 g (by omega) hfr hP (fun j hj => absurd hj (by omega)) (by rw [Nat.add_zero]; exact h7) h8 (by omega) (by rw [Nat.add_zero]; exact hok)
        · have e6 : g' 34 6 = nI n := by rw [hf'.2 6 (by decide) (by decide)]; exact hT.1
          rw [e6, h7']
          rcases Nat.lt_or_ge (5 * q + 4) n with hlt | hge
          · refine brF (nI_ge hlt (by omega)) (Vm_reads_53 (brF (by decide) (brF (by decide) ?_)))
            rw [h7', nI_clamp (show 5 * q + 4 < 2 ^ 31 by omega), hf'.1 39 (by decide) (by decide), hT.2.1 _ hlt]
            refine ⟨vp_in_nI (by omega) (by omega), ?_⟩
            have hby := hT.2.2.1 _ hlt
            by_cases h59 : bv (5 * q + 4) = 59
            · refine brT (by rw [h59]; rfl) (Vm_reads_85 (brF (by decide) ?_))
              rw [h7', nI_1]
              refine ih (q + 1) _ (by omega) ⟨fun c c34 c40 => by funext j; rw [sg_k c34, hf'.1 c c34 c40], fun j j7 j8 => by rw [sg_j j7]; exact hf'.2 j j7 j8⟩ (fun p hp => ?_) (by rw [sg_s]; rfl) (by rw [sg_j (by decide)]; exact h8') (by omega) hpos (fun i hi => ?_)
              · rw [sg_k (by decide), sg_k (by decide), sg_k (by decide), sg_k (by decide)]; exact hP' p hp
              · by_cases hi4 : i = 5 * q + 4
                · rw [hi4, okb4]; exact decide_eq_true h59
                · exact hok' i (by omega)
            · refine brF (fun hx => h59 ((nI_eq (a := bv (5 * q + 4)) (b := 59) (by omega) (by omega)).mp hx)) ?_
              have hb4 : okb bv (5 * q + 4) = false := by rw [okb4]; exact decide_eq_false h59
              obtain ⟨f1, f2⟩ := flt_wr (n := n) (by omega) (wr_at (by omega) hok' hb4 n hlt)
              rw [← f1]
              exact zero8 g' hf' f2
          · have hn : n = 5 * q + 4 := by omega
            refine brT (nI_le hge (by omega)) (Vm_reads_53 (brF (by decide) (brT rfl (Vm_reads_85 (brT rfl (Vm_reads_23 (brT rfl ?_)))))))
            have he : ended n = true := by unfold ended; rw [hn]; simp
            obtain ⟨f1, f2⟩ := flt_ok (wr_all n (by rw [hn]; exact hok')) he
            rw [← f1]
            have hm1 : mny bv n = q + 1 := by rw [f2]; omega
            refine hQ _ ⟨fun c c34 c40 => by funext j; rw [sg_k c34, hf'.1 c c34 c40], fun j j7 j8 => by rw [sg_j j7]; exact hf'.2 j j7 j8⟩ ⟨NT_ok hn79, ?_, fun p hp => ?_⟩
            · rw [sg_j (by decide), h8']
              show _ = nI (mny bv n)
              rw [hm1]
            · have hp' : p < mny bv n := hp
              rw [sg_k (by decide), sg_k (by decide), sg_k (by decide), sg_k (by decide)]
              exact hP' p (by omega)
        · refine Vm_reads_53 (brT rfl ?_)
          rw [h7']
          rcases Nat.lt_or_ge i n with hlt | hge
          · obtain ⟨f1, f2⟩ := flt_wr (n := n) (by omega) (wr_at (by omega) hok' (hbad hlt) n hlt)
            rw [← f1]
            exact zero8 g' hf' f2
          · have hin : i = n := by omega
            have he : ended n = false := by
              unfold ended
              have h1 : ¬ n = 0 := by omega
              have h2 : ¬ n % 5 = 4 := by omega
              simp [h1, h2]
            obtain ⟨f1, f2⟩ := flt_un (by omega) (wr_all n (by rw [← hin]; exact hok')) he
            rw [hin, ← f1]
            exact zero8 g' hf' f2
  have fr0 : frR g0 (sgU (sgU g0 34 7 0) 34 8 0) := ⟨fun c c34 _ => by funext j; rw [sg_k c34, sg_k c34], fun j j7 j8 => by rw [sg_j j8, sg_j j7]⟩
  refine Vm_reads ?_
  rw [hT.1]
  by_cases hn0 : n = 0
  · refine brT (by rw [hn0]; decide) (Vm_reads_23 (brT rfl ?_))
    have he : ended n = true := by unfold ended; simp [hn0]
    obtain ⟨f1, f2⟩ := flt_ok (bv := bv) (n := n) (by rw [hn0]; rfl) he
    rw [← f1]
    exact hQ _ fr0 (NM_0 hn79 (by rw [f2, hn0]) (by rw [sg_s]))
  · refine brF (nI_nle (by omega) (by omega)) (loop 16 0 _ (by omega) fr0 (fun p hp => absurd hp (by omega)) (by rw [sg_j (by decide), sg_s]; rfl) (by rw [sg_s]; rfl) (by omega) (by omega) (fun i hi => absurd hi (by omega)))
