/-! the class: the steps are played -/
def cBk (c : Nat) : Bool := c == 7 || c == 8 || c == 9 || c == 10 || c == 14 || c == 15
/-- lying and laid behind j steps -/
def lyl (g : Sg) (P : Nat → Int32) (j : Nat) : Prop := g 14 j = ly P ∧ ∀ w, w < 16 → P w ≠ 0 → g 15 w = P w
def BkC (N : Net) (sh : Int32) (tk : Nat) (f t : Nat → Int32) (g : Sg) (k : Nat) : Prop := ∀ j, j ≤ k → lyl g (pw N sh tk f t j) j
theorem PC_ly {g : Sg} {P : Nat → Int32} (h : ∀ w, w < 16 → P w ≠ 0 → g 15 w = P w) {w : Nat} (hw : w < 16) : PC g (ly P) w = P w := by
  unfold PC
  by_cases hx : P w = 0
  · rw [if_neg (fun hy => (ly_bt P hw).mp hy hx), hx]
  · rw [if_pos ((ly_bt P hw).mpr hx), h w hw hx]
theorem ly_pull {P : Nat → Int32} {w : Nat} (hw : w < 16) : ly P &&& (sb (nI w) ^^^ (-1)) = ly (upd P w 0) := by
  refine ly_ext (fun v hv => ?_) (fun v hv => ?_)
  · rw [b_and, b_xor, b_sb (by omega), b_m1 v (by omega)]
    by_cases hx : v = w
    · subst hx; simp [upd]
    · simp [upd, hx]
      exact ly_bt P hv
  · rw [b_and, ly_hi P hv]; rfl
theorem ly_let {P : Nat → Int32} {k : Nat} (hk : k < 16) {x : Int32} (hx : x ≠ 0) : ly P ||| sb (nI k) = ly (upd P k x) := by
  refine ly_ext (fun v hv => ?_) (fun v hv => ?_)
  · rw [b_or, b_sb (by omega)]
    by_cases he : v = k
    · subst he; simp [upd, hx]
    · simp [upd, he]
      exact ly_bt P hv
  · rw [b_or, ly_hi P hv, b_sb (by omega)]
    simp; omega
theorem upd_same {P : Nat → Int32} {k : Nat} (h : P k = 0) : upd P k 0 = P := by
  funext j
  unfold upd
  split
  · rename_i hx; rw [hx, h]
  · rfl
theorem Sb_afterPull {g : Sg} {P : Nat → Int32} {w : Nat} {Q : Int32 → Sg → Prop} (hw : w < 16) (hl : ∀ v, v < 16 → P v ≠ 0 → g 15 v = P v) (hk1 : pullable P w → Q (ly (upd P w 0)) g) (hk2 : ¬ pullable P w → Q (ly P) g) : Cb_afterPull (nI w) (ly P) g Q := by
  have loop : P w ≠ 0 → ∀ (m j : Nat), j + m = 16 → w < j → (∀ v, w < v → v < j → (P v &&& P w) = 0) → Hb_afterPull_14 (nI w) (ly P) (nI j) g Q := by
    intro hPw m
    induction m with
    | zero =>
      intro j hj hwj hno
      have hj16 : j = 16 := by omega
      rw [hj16] at hno ⊢
      refine Vb_afterPull_14 (brT (by decide) ?_)
      rw [ly_pull hw]
      exact hk1 ⟨hPw, fun v h1 h2 => hno v h1 h2⟩
    | succ m ih =>
      intro j hj hwj hno
      refine Vb_afterPull_14 (brF (fun hx => ?_) ?_)
      · have : 16 ≤ j := (nI_leI (a := 16) (b := j) (by omega) (by omega)).mp hx
        omega
      · rw [tbb_n _ (by omega), nI_clamp (show j < 2 ^ 31 by omega), nI_clamp (show w < 2 ^ 31 by omega), nI_1]
        by_cases hb : P j = 0
        · refine brF (fun hx => (ly_bt P (by omega)).mp hx hb) (ih (j + 1) (by omega) (by omega) (fun v h1 h2 => ?_))
          by_cases hvj : v = j
          · rw [hvj, hb]; exact b_z.mpr (fun i _ => by rw [b_and, b_0]; rfl)
          · exact hno v h1 (by omega)
        · refine brT ((ly_bt P (by omega)).mpr hb) ⟨vp_in_nI (by omega) (by omega), vp_in_nI (by omega) (by omega), ?_⟩
          rw [hl j (by omega) hb, hl w hw hPw]
          by_cases hz : (P j &&& P w) = 0
          · refine brT hz (ih (j + 1) (by omega) (by omega) (fun v h1 h2 => ?_))
            by_cases hvj : v = j
            · rw [hvj]; exact hz
            · exact hno v h1 (by omega)
          · exact brF hz (hk2 (fun hp => hz (hp.2 j hwj (by omega))))
  refine Vb_afterPull ?_
  rw [tbb_n _ (by omega)]
  by_cases hPw : P w = 0
  · exact brF (fun hx => (ly_bt P hw).mp hx hPw) (hk2 (fun hp => hp.1 hPw))
  · refine brT ((ly_bt P hw).mpr hPw) ?_
    rw [nI_1]
    exact loop hPw (16 - (w + 1)) (w + 1) (by omega) (by omega) (fun v h1 h2 => absurd h2 (by omega))
theorem oc_opn {g : Sg} {sh : Int32} {tk : Nat} {P : Nat → Int32} (h9 : g 1 9 = sh) (h10 : g 1 10 = nI tk) (htk : tk < 2 ^ 31) (h8 : ∀ q, q < 16 → g 8 q = nI (ld P q)) {p : Nat} (hp : p < 16) : OC g p = opn sh tk P p := by
  unfold OC opn
  rw [h9, h10, h8 p hp]
  have hb := ld_le P p
  have : (nI (ld P p) < nI tk) = (ld P p < tk) := propext (nI_ltI (by omega) htk)
  simp only [this]
theorem Sb_afterLetIn {N : Net} {g : Sg} {sh : Int32} {tk k va vb : Nat} {P : Nat → Int32} {Q : Int32 → Sg → Prop} (hN : NC N g) (h9 : g 1 9 = sh) (h10 : g 1 10 = nI tk) (htk : tk < 2 ^ 31) (hk : k < 16) (hl : lyl g P k) (hP : P k = 0) (hf : g 12 k = nI va) (ht : g 13 k = nI vb) (ha : va < 8) (hb : vb < 8) (hab : va ≠ vb)
    (hq : ∀ g', (∀ c, c ≠ 7 → c ≠ 8 → c ≠ 9 → c ≠ 10 → c ≠ 15 → g' c = g c) → (∀ w, w < 16 → upd P k (wb (way N (opn sh tk P) va vb)) w ≠ 0 → g' 15 w = upd P k (wb (way N (opn sh tk P) va vb)) w) → (∀ w, w ≠ k → g' 15 w = g 15 w) → Q (ly (upd P k (wb (way N (opn sh tk P) va vb)))) g') : Cb_afterLetIn (nI k) g Q := by
  have h16 := hN.1.1
  refine Vb_afterLetIn ⟨vp_in_nI (by omega) (by omega), ?_⟩
  rw [nI_clamp (show k < 2 ^ 31 by omega), hl.1]
  refine Sb_fillLoad (fun g2 hfr2 hL2 => ⟨vp_in_nI (by omega) (by omega), vp_in_nI (by omega) (by omega), ?_⟩)
  have hN2 : NC N g2 := hN.of (hfr2 1 (by decide)) (hfr2 3 (by decide)) (hfr2 4 (by decide)) (hfr2 5 (by decide)) (hfr2 6 (by decide))
  rw [hfr2 12 (by decide), hfr2 13 (by decide), hf, ht]
  have hL2' : ∀ q, q < 16 → g2 8 q = nI (ld P q) := fun q hq16 => by
    rw [hL2 q hq16, ld_congr (fun w hw => PC_ly hl.2 hw)]
  have hO : ∀ p, p < N.1 → OC g2 p = opn sh tk P p := fun p hp => oc_opn (by rw [hfr2 1 (by decide)]; exact h9) (by rw [hfr2 1 (by decide)]; exact h10) htk hL2' (by omega)
  have hway := way_cg hN.1 hO ha hb
  refine Sw_find hN2 ha hb hab (fun g5 hfr5 hrow => ?_)
  rw [hway] at hrow ⊢
  obtain ⟨w1, w2, w3, -⟩ := way_ok hN.1 (opn sh tk P) ha hb
  have hm : ∀ p ∈ way N (opn sh tk P) va vb, p < 32 := fun p hp => by have := (w3 p hp).1; omega
  have hfr : ∀ c, c ≠ 7 → c ≠ 8 → c ≠ 9 → c ≠ 10 → g5 c = g c := fun c c7 c8 c9 c10 => (hfr5 c c7 c9 c10).trans (hfr2 c c8)
  refine ⟨fun he => br0 ?_, fun he => br1 ?_⟩
  · have hz : wb (way N (opn sh tk P) va vb) = 0 := (wb_z hm).mpr he
    rw [hz, upd_same hP] at hq
    exact hq g5 (fun c c7 c8 c9 c10 _ => hfr c c7 c8 c9 c10) (fun w hw hne => by rw [hfr 15 (by decide) (by decide) (by decide) (by decide)]; exact hl.2 w hw hne) (fun w _ => by rw [hfr 15 (by decide) (by decide) (by decide) (by decide)])
  · have hnz : wb (way N (opn sh tk P) va vb) ≠ 0 := fun hz => he ((wb_z hm).mp hz)
    refine Sw_rowBits hrow (by omega) ⟨vp_in_nI (by omega) (by omega), ?_⟩
    rw [ly_let hk hnz]
    refine hq _ (fun c c7 c8 c9 c10 c15 => ?_) (fun w hw hne => ?_) (fun w hwk => ?_)
    · funext j; rw [sg_k c15, hfr c c7 c8 c9 c10]
    · by_cases hwk : w = k
      · rw [hwk, sg_s]; simp [upd]
      · have e1 : upd P k (wb (way N (opn sh tk P) va vb)) w = P w := by simp [upd, hwk]
        rw [e1] at hne ⊢
        rw [sg_j hwk, hfr 15 (by decide) (by decide) (by decide) (by decide)]
        exact hl.2 w hw hne
    · rw [sg_j hwk, hfr 15 (by decide) (by decide) (by decide) (by decide)]
theorem Sb_playFrom {N : Net} {g0 : Sg} {sh : Int32} {tk m : Nat} {f t : Nat → Int32} {Q : Sg → Prop} (hN : NC N g0) (h9 : g0 1 9 = sh) (h10 : g0 1 10 = nI tk) (htk : tk < 2 ^ 31) (hm : g0 11 6 = nI m) (hm16 : m ≤ 16) (hst : ∀ j, j < m → stOK (f j) (t j)) (hf : ∀ j, j < m → g0 12 j = f j) (ht : ∀ j, j < m → g0 13 j = t j)
    (hq : ∀ g', (∀ c, cBk c = false → g' c = g0 c) → BkC N sh tk f t g' m → Q g') {k : Nat} (hk : k ≤ m) (hB : BkC N sh tk f t g0 k) : Cb_playFrom (nI k) g0 Q := by
  have loop : ∀ (n k : Nat) (g : Sg), k + n = m → (∀ c, cBk c = false → g c = g0 c) → BkC N sh tk f t g k → Hb_playFrom_2 (nI k) g Q := by
    intro n
    induction n with
    | zero =>
      intro k g hkn hfr hB
      have hkm : k = m := by omega
      refine Vb_playFrom_2 (brT ?_ (hq g hfr (by rw [← hkm]; exact hB)))
      rw [hfr 11 rfl, hm, hkm]; exact nI_le (Nat.le_refl _) (by omega)
    | succ n ih =>
      intro k g hkn hfr hB
      have hkm : k < m := by omega
      have hlk := hB k (Nat.le_refl _)
      have hok := pw_ok hN.1 (sh := sh) (tk := tk) hm16 hst k (by omega)
      refine Vb_playFrom_2 (brF ?_ ⟨vp_in_nI (by omega) (by omega), ?_⟩)
      · rw [hfr 11 rfl, hm]; exact nI_ge hkm (by omega)
      · rw [nI_clamp (show k < 2 ^ 31 by omega), hfr 12 rfl, hfr 13 rfl, hf k hkm, ht k hkm, nI_1, nI_clamp (show k + 1 < 2 ^ 31 by omega)]
        have i17 : vp_in (nI (k + 1)) 17 := vp_in_nI (by omega) (by omega)
        have next : ∀ (g' : Sg) (P' : Nat → Int32), P' = pw N sh tk f t (k + 1) → (∀ c, cBk c = false → g' c = g c) → g' 14 = g 14 → (∀ w, w < 16 → P' w ≠ 0 → g' 15 w = P' w) → (∀ w, w < 16 → w < k → g' 15 w = g 15 w) → Hb_playFrom_2 (nI (k + 1)) (sgU g' 14 (k + 1) (ly P')) Q := by
          intro g' P' hP' hfr' h14 hl' hold
          refine ih (k + 1) _ (by omega) (fun c hc => ?_) (fun j hj => ?_)
          · have hc14 : c ≠ 14 := fun hx => by rw [hx] at hc; cases hc
            funext jj
            rw [sg_k hc14, hfr' c hc, hfr c hc]
          · by_cases hjk : j = k + 1
            · rw [hjk, ← hP']
              exact ⟨by rw [sg_s], fun w hw hne => by rw [sg_k (by decide)]; exact hl' w hw hne⟩
            · obtain ⟨y1, y2⟩ := hB j (by omega)
              refine ⟨by rw [sg_j hjk, h14]; exact y1, fun w hw hne => ?_⟩
              rw [sg_k (by decide)]
              have hokj := pw_ok hN.1 (sh := sh) (tk := tk) hm16 hst j (by omega)
              have hwj : w < j := Nat.lt_of_not_le (fun hx => hne (hokj.1 w hx))
              rw [hold w hw (by omega)]
              exact y2 w hw hne
        have hstep : pw N sh tk f t (k + 1) = stp N sh tk (pw N sh tk f t k) k (f k) (t k) := rfl
        rcases hst k hkm with ⟨e1, w, hw, e2⟩ | ⟨a, b, ha, hb, hab, e1, e2⟩
        · rw [e1, e2] at hstep
          rw [e1, e2]
          refine brT rfl ⟨vp_in_nI (by omega) (by omega), vp_in_nI (by omega) (by omega), ?_⟩
          rw [hlk.1]
          refine Sb_afterPull hw hlk.2 (fun hp => ⟨i17, ?_⟩) (fun hp => ⟨i17, ?_⟩)
          · rw [(stp_pull hw).1 hp] at hstep
            refine next g _ hstep.symm (fun _ _ => rfl) rfl (fun v hv hne => ?_) (fun _ _ _ => rfl)
            by_cases hvw : v = w
            · rw [hvw] at hne; simp [upd] at hne
            · have e3 : upd (pw N sh tk f t k) w 0 v = pw N sh tk f t k v := by simp [upd, hvw]
              rw [e3] at hne ⊢
              exact hlk.2 v hv hne
          · rw [(stp_pull hw).2 hp] at hstep
            exact next g _ hstep.symm (fun _ _ => rfl) rfl hlk.2 (fun _ _ _ => rfl)
        · rw [e1, e2, stp_let ha hb] at hstep
          rw [e1]
          refine brF (nI_m1 (by omega)) ?_
          have hNg : NC N g := hN.of (hfr 1 rfl) (hfr 3 rfl) (hfr 4 rfl) (hfr 5 rfl) (hfr 6 rfl)
          refine Sb_afterLetIn (sh := sh) hNg (by rw [hfr 1 rfl]; exact h9) (by rw [hfr 1 rfl]; exact h10) htk (by omega) hlk (hok.1 k (Nat.le_refl _)) (by rw [hfr 12 rfl, hf k hkm, e1]) (by rw [hfr 13 rfl, ht k hkm, e2]) ha hb hab (fun g' hfr' hl' hold => ⟨i17, ?_⟩)
          refine next g' _ hstep.symm (fun c hc => ?_) (hfr' 14 (by decide) (by decide) (by decide) (by decide) (by decide)) hl' (fun v hv hvk => hold v (by omega))
          refine hfr' c ?_ ?_ ?_ ?_ ?_ <;> (intro hx; rw [hx] at hc; cases hc)
  exact Vb_playFrom (loop (m - k) k g0 (by omega) (fun _ _ => rfl) hB)
