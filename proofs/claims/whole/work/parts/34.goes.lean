/-! the reference: draws, canPull, pulls, goes -/
/-- what the reference's own reckoning may change -/
def scM (k j : Nat) : Bool := k == 40 || k == 43 || k == 44 || k == 45 || k == 46 || (k == 34 && (j == 7 || j == 8 || j == 15 || j == 16 || j == 17))
theorem getD_mem {l : List Nat} {i : Nat} (h : i < l.length) : l.getD i 0 ∈ l := by
  simp [List.getD_eq_getElem?_getD, h]
theorem take_snoc {l : List Nat} {i : Nat} (h : i < l.length) : l.take (i + 1) = l.take i ++ [l.getD i 0] := by
  rw [List.take_add_one]
  simp [List.getD_eq_getElem?_getD, h]
theorem nd_take {l : List Nat} (hn : l.Nodup) {i : Nat} (h : i < l.length) : l.getD i 0 ∉ l.take i := by
  have h1 : (l.take (i + 1)).Nodup := List.Nodup.sublist (List.take_sublist _ _) hn
  rw [take_snoc h, List.nodup_append] at h1
  intro hm
  exact h1.2.2 _ hm _ (List.mem_singleton.mpr rfl) rfl
theorem draws_loop {l : List Nat} {hs : Nat → Nat} {g0 : Sg} {Q : Int32 → Sg → Prop} (hl7 : l.length ≤ 7) (hnd : l.Nodup) (hl16 : ∀ p ∈ l, p < 16) (hW : WayAt g0 l) (hb : ∀ p, hs p ≤ 16)
    (hk : ∀ g', (∀ c, c ≠ 44 → g' c = g0 c) → (∀ p, p < 16 → g' 44 p = nI (hs p + b1 (decide (p ∈ l)))) → Q (wb l) g') :
    ∀ (m i : Nat) (g : Sg), i + m = l.length → (∀ c, c ≠ 44 → g c = g0 c) → (∀ p, p < 16 → g 44 p = nI (hs p + b1 (decide (p ∈ l.take i)))) → Hm_draws_13 (nI l.length) (wb (l.take i)) (nI i) g Q := by
  intro m
  induction m with
  | zero =>
    intro i g him hfr hH
    have hi : i = l.length := by omega
    refine Vm_draws_13 (brT ?_ ?_)
    · rw [hi]; exact nI_le (Nat.le_refl _) (by omega)
    · rw [hi, List.take_length] at hH ⊢
      exact hk g hfr hH
  | succ m ih =>
    intro i g him hfr hH
    have hil : i < l.length := by omega
    have hp16 := hl16 _ (getD_mem hil)
    have hW1 : g 46 i = nI (l.getD i 0) := by rw [hfr 46 (by decide)]; exact hW i hil
    have i16 : vp_in (nI i) 16 := vp_in_nI (by omega) (by omega)
    have ip : vp_in (nI (l.getD i 0)) 16 := vp_in_nI hp16 (by omega)
    refine Vm_draws_13 (brF (nI_ge hil (by omega)) ⟨i16, ?_⟩)
    rw [nI_clamp (show i < 2 ^ 31 by omega), hW1, nI_clamp (show l.getD i 0 < 2 ^ 31 by omega), nI_1, hH _ hp16]
    refine ⟨ip, ip, i16, ?_⟩
    rw [← wb_snoc, ← take_snoc hil]
    refine ih (i + 1) _ (by omega) (fun c hc => by funext j; rw [sg_k hc, hfr c hc]) (fun p hp => ?_)
    rw [take_snoc hil]
    by_cases hpp : p = l.getD i 0
    · rw [hpp, sg_s]
      have h1 : b1 (decide (l.getD i 0 ∈ l.take i)) = 0 := by rw [decide_eq_false (nd_take hnd hil)]; rfl
      have h2 : b1 (decide (l.getD i 0 ∈ l.take i ++ [l.getD i 0])) = 1 := by simp [b1]
      rw [h1, h2]
      exact nI_1 _
    · rw [sg_j hpp, hH p hp]
      have h3 : (p ∈ l.take i ++ [l.getD i 0]) = (p ∈ l.take i) := by
        apply propext
        rw [List.mem_append, List.mem_singleton]
        exact ⟨fun hx => hx.elim id (fun hy => absurd hy hpp), Or.inl⟩
      simp only [h3]
theorem Sm_draws {N : Net} {g : Sg} {va vb : Nat} {hs : Nat → Nat} {Q : Int32 → Sg → Prop} (hN : NM N g) (ha : va < 8) (hb : vb < 8) (hab : va ≠ vb) (hH : ∀ p, p < 16 → g 44 p = nI (hs p)) (hbd : ∀ p, hs p ≤ 16)
    (hk : ∀ g', (∀ c, c ≠ 44 → c ≠ 45 → c ≠ 46 → g' c = g c) → (∀ p, p < 16 → g' 44 p = nI (hs p + b1 (decide (p ∈ way N (OM g) va vb)))) → Q (wb (way N (OM g) va vb)) g') : Cm_draws (nI va) (nI vb) g Q := by
  have h16 := hN.1.1
  obtain ⟨w1, w2, w3, -⟩ := way_ok hN.1 (OM g) ha hb
  refine Vm_draws (Sm_findWay hN ha hb hab (fun g1 hfr1 hW => ⟨fun he => ?_, fun he _ => ?_⟩))
  · refine Vm_draws_13 (brT (by decide) ?_)
    have := hk g1 (fun c _ c45 c46 => hfr1 c c45 c46) (fun p hp => by rw [hfr1 44 (by decide) (by decide), hH p hp, he]; rfl)
    rw [he] at this
    exact this
  · refine draws_loop (hs := hs) (g0 := g1) w1 w2 (fun p hp => by have := (w3 p hp).1; omega) hW hbd (fun g' hfr hH' => hk g' (fun c c44 c45 c46 => (hfr c c44).trans (hfr1 c c45 c46)) hH') (way N (OM g) va vb).length 0 g1 (by omega) (fun _ _ => rfl) (fun p hp => ?_)
    rw [hfr1 44 (by decide) (by decide), hH p hp]
    simp [b1]
/-- lying, wire, has behind some steps -/
def MG (g : Sg) (P : Nat → Int32) : Prop := g 34 15 = ly P ∧ (∀ w, w < 16 → P w ≠ 0 → g 43 w = P w) ∧ ∀ p, p < 16 → g 44 p = nI (ld P p)
theorem Sm_canPull {g : Sg} {P : Nat → Int32} {w : Nat} {Q : Int32 → Sg → Prop} (hw : w < 16) (hly : g 34 15 = ly P) (hl : ∀ v, v < 16 → P v ≠ 0 → g 43 v = P v) (hk1 : pullable P w → Q 1 g) (hk2 : ¬ pullable P w → Q 0 g) : Cm_canPull (nI w) g Q := by
  have stop : ∀ (m j : Nat), j + m = 16 → ¬ pullable P w → Hm_canPull_13 (nI w) 0 (nI j) g Q := by
    intro m j hj hn
    exact Vm_canPull_13 ⟨fun _ => ⟨by decide, hk2 hn⟩, fun _ => brT rfl ⟨by decide, hk2 hn⟩⟩
  have loop : P w ≠ 0 → ∀ (m j : Nat), j + m = 16 → w < j → (∀ v, w < v → v < j → (P v &&& P w) = 0) → Hm_canPull_13 (nI w) 1 (nI j) g Q := by
    intro hPw m
    induction m with
    | zero =>
      intro j hj hwj hno
      have hj16 : j = 16 := by omega
      rw [hj16] at hno ⊢
      exact Vm_canPull_13 (brT (by decide) ⟨by decide, hk1 ⟨hPw, fun v h1 h2 => hno v h1 h2⟩⟩)
    | succ m ih =>
      intro j hj hwj hno
      refine Vm_canPull_13 (brF (fun hx => ?_) (brF (by decide) ?_))
      · have : 16 ≤ j := (nI_leI (a := 16) (b := j) (by omega) (by omega)).mp hx
        omega
      · rw [hly, tbb_n _ (by omega), nI_clamp (show j < 2 ^ 31 by omega), nI_clamp (show w < 2 ^ 31 by omega), nI_1]
        by_cases hb : P j = 0
        · refine brF (fun hx => (ly_bt P (by omega)).mp hx hb) (ih (j + 1) (by omega) (by omega) (fun v h1 h2 => ?_))
          by_cases hvj : v = j
          · rw [hvj, hb]; exact b_z.mpr (fun i _ => by rw [b_and, b_0]; rfl)
          · exact hno v h1 (by omega)
        · refine brT ((ly_bt P (by omega)).mpr hb) ⟨vp_in_nI (by omega) (by omega), vp_in_nI (by omega) (by omega), ?_⟩
          rw [hl j (by omega) hb, hl w hw hPw]
          by_cases hz : (P j &&& P w) = 0
          · refine brT hz (ih (j + 1) (by omega) (by omega) (fun v h1 h2 => ?_))
            by_cases hvj : v = j
            · rw [hvj]; exact hz
            · exact hno v h1 (by omega)
          · exact brF hz (stop m (j + 1) (by omega) (fun hp => hz (hp.2 j hwj (by omega))))
  refine Vm_canPull ?_
  rw [hly, tbb_n _ (by omega), nI_1]
  by_cases hPw : P w = 0
  · rw [bP_f (fun hx => (ly_bt P hw).mp hx hPw)]
    exact stop (16 - (w + 1)) (w + 1) (by omega) (fun hp => hp.1 hPw)
  · rw [bP_t ((ly_bt P hw).mpr hPw)]
    exact loop hPw (16 - (w + 1)) (w + 1) (by omega) (by omega) (fun v h1 h2 => absurd h2 (by omega))
theorem Sm_pulls {g : Sg} {P : Nat → Int32} {w : Nat} {Q : Sg → Prop} (hw : w < 16) (hG : MG g P) (hPw : P w ≠ 0)
    (hk : ∀ g', (∀ c, c ≠ 34 → c ≠ 44 → g' c = g c) → (∀ j, j ≠ 15 → g' 34 j = g 34 j) → MG g' (upd P w 0) → Q g') : Cm_pulls (nI w) g Q := by
  obtain ⟨hly, hl, hH⟩ := hG
  have hldu : ∀ p, ld (upd P w 0) p + b1 (bt (P w) p) = ld P p := fun p => by
    have := ld_upd (P := P) hw 0 p
    have h3 : b1 (bt 0 p) = 0 := by rw [b_0]; rfl
    omega
  have loop : ∀ (m p : Nat) (g1 : Sg), p + m = 16 → (∀ c, c ≠ 34 → c ≠ 44 → g1 c = g c) → (∀ j, j ≠ 15 → g1 34 j = g 34 j) → g1 34 15 = ly (upd P w 0) → (∀ q, q < 16 → g1 44 q = nI (if q < p then ld (upd P w 0) q else ld P q)) → Hm_pulls_16 (nI w) (nI p) g1 Q := by
    intro m
    induction m with
    | zero =>
      intro p g1 hpm hfr h34 hly1 hH1
      have hp16 : p = 16 := by omega
      rw [hp16] at hH1 ⊢
      refine Vm_pulls_16 (brT (by decide) (hk g1 hfr h34 ⟨hly1, fun v hv hne => ?_, fun q hq => ?_⟩))
      · by_cases hvw : v = w
        · rw [hvw] at hne; simp [upd] at hne
        · have e3 : upd P w 0 v = P v := by simp [upd, hvw]
          rw [e3] at hne ⊢
          rw [hfr 43 (by decide) (by decide)]
          exact hl v hv hne
      · rw [hH1 q hq, if_pos hq]
    | succ m ih =>
      intro p g1 hpm hfr h34 hly1 hH1
      have i16 : vp_in (nI p) 16 := vp_in_nI (by omega) (by omega)
      refine Vm_pulls_16 (brF (fun hx => ?_) ⟨i16, vp_in_nI hw (by omega), ?_⟩)
      · have : 16 ≤ p := (nI_leI (a := 16) (b := p) (by omega) (by omega)).mp hx
        omega
      · rw [nI_clamp (show w < 2 ^ 31 by omega), nI_clamp (show p < 2 ^ 31 by omega), tbb_n _ (by omega), hfr 43 (by decide) (by decide), hl w hw hPw, hH1 p (by omega), if_neg (Nat.lt_irrefl p), nI_1]
        have hd := hldu p
        have go : ∀ x, x = nI (ld (upd P w 0) p) → Hm_pulls_16 (nI w) (nI (p + 1)) (sgU g1 44 p x) Q := by
          intro x hx
          rw [hx]
          refine ih (p + 1) _ (by omega) (fun c c34 c44 => by funext j; rw [sg_k c44, hfr c c34 c44]) (fun j hj => by rw [sg_k (by decide)]; exact h34 j hj) (by rw [sg_k (by decide)]; exact hly1) (fun q hq => ?_)
          by_cases hqp : q = p
          · rw [hqp, sg_s, if_pos (Nat.lt_succ_self p)]
          · rw [sg_j hqp, hH1 q hq]
            by_cases hlt : q < p
            · rw [if_pos hlt, if_pos (by omega)]
            · rw [if_neg hlt, if_neg (by omega)]
        cases hb : bt (P w) p with
        | true =>
          rw [hb] at hd
          refine brT rfl ⟨i16, go _ ?_⟩
          have h1 : ld P p = ld (upd P w 0) p + 1 := hd.symm
          rw [h1]
          exact nI_pred _
        | false =>
          rw [hb] at hd
          refine brF (by decide) ⟨i16, go _ ?_⟩
          have h1 : ld P p = ld (upd P w 0) p := hd.symm
          rw [h1]
          exact pk_sub (Nat.zero_le _)
  refine Vm_pulls (loop 16 0 _ (by omega) (fun c c34 _ => by funext j; rw [sg_k c34]) (fun j hj => by rw [sg_j hj]) (by rw [sg_s, hly, ly_pull hw]) (fun q hq => ?_))
  rw [sg_k (by decide), hH q hq, if_neg (by omega)]
