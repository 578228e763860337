/-! the reference: goes(k) comes to the wires behind k steps -/
/-- is step j done -/
noncomputable def dnB (N : Net) (sh : Int32) (tk : Nat) (f t : Nat → Int32) (j : Nat) : Bool := !decide (ly (pw N sh tk f t (j + 1)) = ly (pw N sh tk f t j))
noncomputable def dn (N : Net) (sh : Int32) (tk : Nat) (f t : Nat → Int32) (k : Nat) : Nat := sm k (fun j => b1 (dnB N sh tk f t j))
/-- the first of k steps that is not done -/
noncomputable def fnd (N : Net) (sh : Int32) (tk : Nat) (f t : Nat → Int32) : Nat → Int32
  | 0 => -1
  | k + 1 => if dnB N sh tk f t k = false ∧ fnd N sh tk f t k = -1 then nI k else fnd N sh tk f t k
theorem ly_ne {P R : Nat → Int32} {w : Nat} (hw : w < 16) (h : ¬ (P w ≠ 0 ↔ R w ≠ 0)) : ly P ≠ ly R := fun he => by
  refine h ?_
  rw [← ly_bt P hw, ← ly_bt R hw, he]
/-- the reference's reading gives the net N and the fault fl -/
def RdM (N : Net) (fl : Int32) (g : Sg) : Prop := ∀ Q : Int32 → Sg → Prop, (∀ g', (∀ c, c ≠ 34 → c ≠ 40 → g' c = g c) → (∀ j, j ≠ 7 → j ≠ 8 → g' 34 j = g 34 j) → NM N g' → Q fl g') → Cm_reads g Q
/-- what the reckoning stands on: the settings and the first k steps -/
def StM (g : Sg) (sh : Int32) (tk : Nat) (f t : Nat → Int32) (k : Nat) : Prop := g 41 0 = sh ∧ g 41 1 = nI tk ∧ ∀ j, j < k → g 42 (2 * j) = f j ∧ g 42 (2 * j + 1) = t j
theorem om_opn {g : Sg} {sh : Int32} {tk : Nat} {P : Nat → Int32} (h9 : g 41 0 = sh) (h10 : g 41 1 = nI tk) (htk : tk < 2 ^ 31) (h8 : ∀ q, q < 16 → g 44 q = nI (ld P q)) {p : Nat} (hp : p < 16) : OM g p = opn sh tk P p := by
  unfold OM opn
  rw [h9, h10, h8 p hp]
  have hb := ld_le P p
  have : (nI (ld P p) < nI tk) = (ld P p < tk) := propext (nI_ltI (by omega) htk)
  simp only [this]
theorem ix2 {k : Nat} (hk : k < 16) : (2 * nI k).toNatClampNeg = 2 * k ∧ (2 * nI k + 1).toNatClampNeg = 2 * k + 1 ∧ vp_in (2 * nI k) 32 ∧ vp_in (2 * nI k + 1) 32 := by
  rw [mulR, addL]
  exact ⟨nI_clamp (by omega), nI_clamp (by omega), vp_in_nI (by omega) (by omega), vp_in_nI (by omega) (by omega)⟩
section Goes
variable {N : Net} {sh : Int32} {tk m : Nat} {f t : Nat → Int32} {g0 : Sg} {Q : Sg → Prop}
/-- the loop's state behind k steps -/
def GI (N : Net) (sh : Int32) (tk : Nat) (f t : Nat → Int32) (g0 g : Sg) (k : Nat) : Prop :=
  (∀ c, c ≠ 34 → c ≠ 43 → c ≠ 44 → c ≠ 45 → c ≠ 46 → g c = g0 c) ∧ (∀ j, j ≠ 15 → j ≠ 16 → j ≠ 17 → g 34 j = g0 34 j) ∧ MG g (pw N sh tk f t k) ∧ g 34 16 = nI (dn N sh tk f t k) ∧ g 34 17 = fnd N sh tk f t k
theorem goes_tail {k : Nat} {b : Bool} {g : Sg} (hk : k < 16) (hfr : ∀ c, c ≠ 34 → c ≠ 43 → c ≠ 44 → c ≠ 45 → c ≠ 46 → g c = g0 c) (h34 : ∀ j, j ≠ 15 → j ≠ 16 → j ≠ 17 → g 34 j = g0 34 j) (hG : MG g (pw N sh tk f t (k + 1))) (h16 : g 34 16 = nI (dn N sh tk f t k)) (h17 : g 34 17 = fnd N sh tk f t k) (hb : dnB N sh tk f t k = b)
    (hq : ∀ g', GI N sh tk f t g0 g' (k + 1) → Hm_goes_50 (nI m) (nI (k + 1)) g' Q) : Hm_goes_168 (nI m) (nI k) (if b = true then 1 else 0) g Q := by
  have key : ∀ (x y : Int32), x = nI (dn N sh tk f t (k + 1)) → y = fnd N sh tk f t (k + 1) → Hm_goes_50 (nI m) (nI k + 1) (sgU (sgU g 34 16 x) 34 17 y) Q := by
    intro x y hx hy
    rw [nI_1]
    refine hq _ ⟨fun c c34 c43 c44 c45 c46 => by funext j; rw [sg_k c34, sg_k c34, hfr c c34 c43 c44 c45 c46], fun j j15 j16 j17 => by rw [sg_j j17, sg_j j16]; exact h34 j j15 j16 j17, ⟨?_, ?_, ?_⟩, ?_, ?_⟩
    · rw [sg_j (by decide), sg_j (by decide)]; exact hG.1
    · intro w hw hne; rw [sg_k (by decide), sg_k (by decide)]; exact hG.2.1 w hw hne
    · intro p hp; rw [sg_k (by decide), sg_k (by decide)]; exact hG.2.2 p hp
    · rw [sg_j (by decide), sg_s]; exact hx
    · rw [sg_s]; exact hy
  have hdn : dn N sh tk f t (k + 1) = dn N sh tk f t k + b1 b := by rw [← hb]; rfl
  have hfn : fnd N sh tk f t (k + 1) = if b = false ∧ fnd N sh tk f t k = -1 then nI k else fnd N sh tk f t k := by rw [← hb]; rfl
  cases b with
  | true =>
    rw [if_pos rfl]
    refine Vm_goes_168 (brF (by decide) (brF (by decide) (key _ _ ?_ ?_)))
    · rw [h16, hdn]; exact nI_1 _
    · rw [h17, hfn]; simp
  | false =>
    rw [if_neg (by decide)]
    refine Vm_goes_168 (brT rfl (brT rfl ?_))
    rw [h17, h16]
    by_cases hz : fnd N sh tk f t k = -1
    · refine brT hz (key _ _ ?_ ?_)
      · rw [hdn]; exact nI_add _ 0
      · rw [hfn]; simp [hz]
    · refine brF hz (key _ _ ?_ ?_)
      · rw [hdn]; exact nI_add _ 0
      · rw [hfn]; simp [hz]
theorem goes_loop (hN : NM N g0) (hS : StM g0 sh tk f t m) (htk : tk < 2 ^ 31) (hm16 : m ≤ 16) (hst : ∀ j, j < m → stOK (f j) (t j)) (hq : ∀ g', GI N sh tk f t g0 g' m → Q g') :
    ∀ (n k : Nat) (g : Sg), k + n = m → GI N sh tk f t g0 g k → Hm_goes_50 (nI m) (nI k) g Q := by
  intro n
  induction n with
  | zero =>
    intro k g hkn hI
    have hkm : k = m := by omega
    refine Vm_goes_50 (brT ?_ (hq g (by rw [← hkm]; exact hI)))
    rw [hkm]; exact nI_le (Nat.le_refl _) (by omega)
  | succ n ih =>
    intro k g hkn hI
    obtain ⟨hfr, h34, hG, h16, h17⟩ := hI
    have hkm : k < m := by omega
    have hok := pw_ok hN.1 (sh := sh) (tk := tk) hm16 hst k (by omega)
    obtain ⟨x1, x2, x3, x4⟩ := ix2 (show k < 16 by omega)
    have e42 : g 42 = g0 42 := hfr 42 (by decide) (by decide) (by decide) (by decide) (by decide)
    have e41 : g 41 = g0 41 := hfr 41 (by decide) (by decide) (by decide) (by decide) (by decide)
    obtain ⟨s1, s2⟩ := hS.2.2 k hkm
    have go : ∀ (b : Bool) (g' : Sg), (∀ c, c ≠ 34 → c ≠ 43 → c ≠ 44 → c ≠ 45 → c ≠ 46 → g' c = g c) → (∀ j, j ≠ 15 → g' 34 j = g 34 j) → MG g' (pw N sh tk f t (k + 1)) → dnB N sh tk f t k = b → Hm_goes_168 (nI m) (nI k) (if b = true then 1 else 0) g' Q := by
      intro b g' hfr' h34' hG' hb
      refine goes_tail (g0 := g0) (by omega) (fun c c34 c43 c44 c45 c46 => (hfr' c c34 c43 c44 c45 c46).trans (hfr c c34 c43 c44 c45 c46)) (fun j j15 j16 j17 => (h34' j j15).trans (h34 j j15 j16 j17)) hG' ?_ ?_ hb (fun g'' hI'' => ih (k + 1) g'' (by omega) hI'')
      · rw [h34' 16 (by decide)]; exact h16
      · rw [h34' 17 (by decide)]; exact h17
    have hstep : pw N sh tk f t (k + 1) = stp N sh tk (pw N sh tk f t k) k (f k) (t k) := rfl
    refine Vm_goes_50 (brF (nI_ge hkm (by omega)) ⟨x3, ?_⟩)
    rw [x1, x2, e42, s1, s2]
    rcases hst k hkm with ⟨e1, w, hw, e2⟩ | ⟨a, b, ha, hb, hab, e1, e2⟩
    · rw [e1, e2] at hstep
      rw [e1, e2]
      refine brT rfl ⟨x4, ?_⟩
      refine Sm_canPull hw hG.1 hG.2.1 (fun hp => br1 ⟨x4, ?_⟩) (fun hp => br0 ?_)
      · rw [(stp_pull hw).1 hp] at hstep
        rw [e42, s2, e2]
        refine Sm_pulls hw hG hp.1 (fun g6 hfr6 h346 hG6 => ?_)
        refine go true g6 (fun c c34 _ c44 _ _ => hfr6 c c34 c44) h346 (by rw [hstep]; exact hG6) ?_
        unfold dnB
        rw [hstep, decide_eq_false (ly_ne hw (fun hx => by simp [upd, hp.1] at hx))]
        rfl
      · rw [(stp_pull hw).2 hp] at hstep
        refine go false g (fun _ _ _ _ _ _ => rfl) (fun _ _ => rfl) (by rw [hstep]; exact hG) ?_
        unfold dnB
        rw [hstep]; simp
    · rw [e1, e2, stp_let ha hb] at hstep
      rw [e1, e2]
      refine brF (nI_m1 (by omega)) ⟨x3, x4, ?_⟩
      have hNg : NM N g := hN.of (h34 8 (by decide) (by decide) (by decide)) (hfr 40 (by decide) (by decide) (by decide) (by decide) (by decide))
      have hO : ∀ p, p < N.1 → OM g p = opn sh tk (pw N sh tk f t k) p := fun p hp => om_opn (by rw [e41]; exact hS.1) (by rw [e41]; exact hS.2.1) htk hG.2.2 (by have := hN.1.1; omega)
      have hway := way_cg hN.1 hO ha hb
      have hP : pw N sh tk f t k k = 0 := hok.1 k (Nat.le_refl _)
      obtain ⟨w1, w2, w3, -⟩ := way_ok hN.1 (opn sh tk (pw N sh tk f t k)) ha hb
      have h16' := hN.1.1
      have hmm : ∀ p ∈ way N (opn sh tk (pw N sh tk f t k)) a b, p < 32 := fun p hp => by have := (w3 p hp).1; omega
      refine Sm_draws hNg ha hb hab hG.2.2 (fun p => ld_le _ p) (fun g9 hfr9 hH9 => ⟨vp_in_nI (by omega) (by omega), vp_in_nI (by omega) (by omega), ?_⟩)
      rw [hway] at hH9 ⊢
      rw [nI_clamp (show k < 2 ^ 31 by omega), sg_s]
      have e34 : g9 34 = g 34 := hfr9 34 (by decide) (by decide) (by decide)
      rw [e34, hG.1]
      have mk : ∀ y, y = ly (pw N sh tk f t (k + 1)) → MG (sgU (sgU g9 43 k (wb (way N (opn sh tk (pw N sh tk f t k)) a b))) 34 15 y) (pw N sh tk f t (k + 1)) := by
        intro y hy
        refine ⟨by rw [sg_s]; exact hy, fun v hv hne => ?_, fun p hp => ?_⟩
        · rw [sg_k (by decide)]
          by_cases hvk : v = k
          · rw [hvk, sg_s, hstep]; simp [upd]
          · rw [sg_j hvk, hfr9 43 (by decide) (by decide) (by decide)]
            have e3 : pw N sh tk f t (k + 1) v = pw N sh tk f t k v := by rw [hstep]; simp [upd, hvk]
            rw [e3] at hne ⊢
            exact hG.2.1 v hv hne
        · rw [sg_k (by decide), sg_k (by decide), hH9 p hp, hstep]
          have h1 := ld_upd (P := pw N sh tk f t k) (show k < 16 by omega) (wb (way N (opn sh tk (pw N sh tk f t k)) a b)) p
          have h3 : b1 (bt (pw N sh tk f t k k) p) = 0 := by rw [hP, b_0]; rfl
          rw [wb_bt _ hmm, h3, Nat.add_zero] at h1
          rw [h1]
      have fr2 : ∀ y, (∀ c, c ≠ 34 → c ≠ 43 → c ≠ 44 → c ≠ 45 → c ≠ 46 → sgU (sgU g9 43 k (wb (way N (opn sh tk (pw N sh tk f t k)) a b))) 34 15 y c = g c) ∧ (∀ j, j ≠ 15 → sgU (sgU g9 43 k (wb (way N (opn sh tk (pw N sh tk f t k)) a b))) 34 15 y 34 j = g 34 j) := fun y =>
        ⟨fun c c34 c43 c44 c45 c46 => by funext j; rw [sg_k c34, sg_k c43, hfr9 c c44 c45 c46], fun j j15 => by rw [sg_j j15, sg_k (by decide), e34]⟩
      by_cases hz : wb (way N (opn sh tk (pw N sh tk f t k)) a b) = 0
      · have hlz : ly (pw N sh tk f t (k + 1)) = ly (pw N sh tk f t k) := by rw [hstep, hz, upd_same hP]
        refine brT hz (go false _ (fr2 _).1 (fr2 _).2 (mk _ ?_) ?_)
        · rw [hlz]
          exact b_ext (fun i _ => by rw [b_or, b_0, Bool.or_false])
        · unfold dnB; rw [hlz]; simp
      · have hlz : ly (pw N sh tk f t k) ||| sb (nI k) = ly (pw N sh tk f t (k + 1)) := by rw [hstep]; exact ly_let (by omega) hz
        refine brF hz (go true _ (fr2 _).1 (fr2 _).2 (mk _ hlz) ?_)
        unfold dnB
        rw [decide_eq_false (ly_ne (w := k) (by omega) (fun hx => ?_))]
        · rfl
        · rw [hstep, hP] at hx
          simp [upd, hz] at hx
end Goes
theorem Sm_goes {N : Net} {fl sh : Int32} {tk m : Nat} {f t : Nat → Int32} {g : Sg} {Q : Sg → Prop} (hR : RdM N fl g) (hS : StM g sh tk f t m) (htk : tk < 2 ^ 31) (hm16 : m ≤ 16) (hst : ∀ j, j < m → stOK (f j) (t j))
    (hq : ∀ g', Kp scM g g' → NM N g' → MG g' (pw N sh tk f t m) → g' 34 16 = nI (dn N sh tk f t m) → g' 34 17 = fnd N sh tk f t m → Q g') : Cm_goes (nI m) g Q := by
  refine Vm_goes (hR _ (fun g1 hfr1 h341 hN1 => ?_))
  have init : ∀ (n i : Nat) (g2 : Sg), i + n = 16 → (∀ c, c ≠ 34 → c ≠ 43 → c ≠ 44 → g2 c = g1 c) → (∀ j, j ≠ 15 → j ≠ 16 → j ≠ 17 → g2 34 j = g1 34 j) → g2 34 15 = 0 → g2 34 16 = 0 → g2 34 17 = -1 → (∀ w, w < i → g2 43 w = 0 ∧ g2 44 w = 0) → Hm_goes_22 (nI m) (nI i) g2 Q := by
    intro n
    induction n with
    | zero =>
      intro i g2 hin hfr2 h342 h15 h16 h17 hz
      have hi : i = 16 := by omega
      rw [hi] at hz ⊢
      refine Vm_goes_22 (brT (by decide) ?_)
      have hN2 : NM N g2 := hN1.of (h342 8 (by decide) (by decide) (by decide)) (hfr2 40 (by decide) (by decide) (by decide))
      have hS2 : StM g2 sh tk f t m := by
        unfold StM
        rw [hfr2 41 (by decide) (by decide) (by decide), hfr2 42 (by decide) (by decide) (by decide), hfr1 41 (by decide) (by decide), hfr1 42 (by decide) (by decide)]
        exact hS
      refine goes_loop hN2 hS2 htk hm16 hst (fun g' hI => ?_) m 0 g2 (by omega) ⟨fun _ _ _ _ _ _ => rfl, fun _ _ _ _ => rfl, ⟨?_, ?_, ?_⟩, ?_, ?_⟩
      · obtain ⟨i1, i2, i3, i4, i5⟩ := hI
        refine hq g' (fun c j hc => ?_) (hN2.of (i2 8 (by decide) (by decide) (by decide)) (i1 40 (by decide) (by decide) (by decide) (by decide) (by decide))) i3 i4 i5
        by_cases hc34 : c = 34
        · subst hc34
          simp [scM] at hc
          rw [i2 j (by omega) (by omega) (by omega), h342 j (by omega) (by omega) (by omega), h341 j (by omega) (by omega)]
        · simp [scM] at hc
          rw [i1 c hc34 (by omega) (by omega) (by omega) (by omega), hfr2 c hc34 (by omega) (by omega), hfr1 c hc34 (by omega)]
      · rw [h15]
        exact ly_ext (fun w hw => ⟨fun hx => absurd ((b_0 w).symm.trans hx) (by decide), fun hx => absurd rfl hx⟩) (fun w _ => b_0 w)
      · intro w hw hne; exact absurd rfl hne
      · intro p hp
        rw [(hz p hp).2]
        have : ld (pw N sh tk f t 0) p = 0 := by
          have hzz : ∀ n : Nat, sm n (fun w => b1 (bt (pw N sh tk f t 0 w) p)) = 0 := by
            intro n
            induction n with
            | zero => rfl
            | succ n ih =>
              show sm n _ + b1 (bt 0 p) = 0
              rw [ih, b_0]; rfl
          exact hzz 16
        rw [this]; rfl
      · rw [h16]; rfl
      · rw [h17]; rfl
    | succ n ih =>
      intro i g2 hin hfr2 h342 h15 h16 h17 hz
      have i16 : vp_in (nI i) 16 := vp_in_nI (by omega) (by omega)
      refine Vm_goes_22 (brF (fun hx => ?_) ⟨i16, i16, ?_⟩)
      · have : 16 ≤ i := (nI_leI (a := 16) (b := i) (by omega) (by omega)).mp hx
        omega
      · rw [nI_clamp (show i < 2 ^ 31 by omega), nI_1]
        refine ih (i + 1) _ (by omega) (fun c c34 c43 c44 => by funext j; rw [sg_k c44, sg_k c43, hfr2 c c34 c43 c44]) (fun j j15 j16 j17 => by rw [sg_k (by decide), sg_k (by decide)]; exact h342 j j15 j16 j17) (by rw [sg_k (by decide), sg_k (by decide)]; exact h15) (by rw [sg_k (by decide), sg_k (by decide)]; exact h16) (by rw [sg_k (by decide), sg_k (by decide)]; exact h17) (fun w hw => ?_)
        by_cases hwi : w = i
        · rw [hwi]
          exact ⟨by rw [sg_k (by decide), sg_s], by rw [sg_s]⟩
        · obtain ⟨y1, y2⟩ := hz w (by omega)
          exact ⟨by rw [sg_k (by decide), sg_j hwi]; exact y1, by rw [sg_j hwi, sg_k (by decide)]; exact y2⟩
  refine init 16 0 _ (by omega) (fun c c34 _ _ => by funext j; rw [sg_k c34, sg_k c34, sg_k c34]) (fun j j15 j16 j17 => by rw [sg_j j17, sg_j j16, sg_j j15]) ?_ ?_ ?_ (fun w hw => absurd hw (by omega))
  · rw [sg_j (by decide), sg_j (by decide), sg_s]
  · rw [sg_j (by decide), sg_s]
  · rw [sg_s]
