/-! heard: in how many ways she can be where -/
def s32 : Nat → (Nat → Int32) → Int32
  | 0, _ => 0
  | n + 1, f => s32 n f + f n
theorem s32_cg {f h : Nat → Int32} : ∀ n : Nat, (∀ w, w < n → f w = h w) → s32 n f = s32 n h := by
  intro n
  induction n with
  | zero => intro _; rfl
  | succ n ih =>
    intro hw
    show s32 n f + f n = s32 n h + h n
    rw [ih (fun w hlt => hw w (by omega)), hw n (by omega)]
def inE (N : Net) (k : Nat) : Nat := if k % 2 = 0 then nA N (k / 2) else nB N (k / 2)
def ouE (N : Net) (k : Nat) : Nat := if k % 2 = 0 then nB N (k / 2) else nA N (k / 2)
/-- behind n + 1 bells: in how many ways she comes out of pipe k / 2, ahead or against it -/
def wk (N : Net) (sh : Int32) (fr : Nat) : Nat → Nat → Int32
  | 0, k => if bt sh (k / 2) = false ∧ inE N k = fr then 1 else 0
  | n + 1, k => if bt sh (k / 2) = true then 0 else s32 (2 * N.1) (fun j => if ¬ j / 2 = k / 2 ∧ ouE N j = inE N k then wk N sh fr n j else 0)
def tot (N : Net) (sh : Int32) (fr n e : Nat) : Int32 := s32 (2 * N.1) (fun k => if ouE N k = e then wk N sh fr n k else 0)
def tt (N : Net) (sh : Int32) (fr : Nat) : Nat → Nat → Int32
  | 0, e => if fr = e then 1 else 0
  | n + 1, e => tot N sh fr n e
theorem inE_0 (N : Net) (p : Nat) : inE N (2 * p) = nA N p := by unfold inE; rw [if_pos (by omega), show 2 * p / 2 = p by omega]
theorem inE_1 (N : Net) (p : Nat) : inE N (2 * p + 1) = nB N p := by unfold inE; rw [if_neg (by omega), show (2 * p + 1) / 2 = p by omega]
theorem ouE_0 (N : Net) (p : Nat) : ouE N (2 * p) = nB N p := by unfold ouE; rw [if_pos (by omega), show 2 * p / 2 = p by omega]
theorem ouE_1 (N : Net) (p : Nat) : ouE N (2 * p + 1) = nA N p := by unfold ouE; rw [if_neg (by omega), show (2 * p + 1) / 2 = p by omega]
theorem s32_ex {N : Net} {h : Nat → Int32} {e p c : Nat} (hc : c / 2 = p) (h1 : ouE N c = e) (h2 : ∀ j, j / 2 = p → j ≠ c → ouE N j ≠ e) : ∀ M : Nat, s32 M (fun j => if ¬ j / 2 = p ∧ ouE N j = e then h j else 0) + (if c < M then h c else 0) = s32 M (fun j => if ouE N j = e then h j else 0) := by
  intro M
  induction M with
  | zero => rfl
  | succ M ih =>
    show s32 M _ + (if ¬ M / 2 = p ∧ ouE N M = e then h M else 0) + _ = s32 M _ + (if ouE N M = e then h M else 0)
    by_cases hM : M = c
    · subst hM
      rw [if_neg (Nat.lt_irrefl M), Int32.add_zero] at ih
      rw [if_neg (fun q => q.1 hc), if_pos (Nat.lt_succ_self M), if_pos h1, Int32.add_zero, ih]
    · have e2 : (if c < M + 1 then h c else 0) = (if c < M then h c else 0) := by
        by_cases hl : c < M
        · rw [if_pos hl, if_pos (by omega)]
        · rw [if_neg hl, if_neg (by omega)]
      have e3 : (if ¬ M / 2 = p ∧ ouE N M = e then h M else 0) = (if ouE N M = e then h M else 0) := by
        by_cases ho : ouE N M = e
        · rw [if_pos ho, if_pos ⟨fun q => h2 M q hM ho, ho⟩]
        · rw [if_neg ho, if_neg (fun q => ho q.2)]
      rw [e2, e3, ← ih, Int32.add_assoc, Int32.add_assoc, Int32.add_comm (if ouE N M = e then h M else 0)]
theorem wk_shut {N : Net} {sh : Int32} {fr : Nat} {k : Nat} (h : bt sh (k / 2) = true) : ∀ n : Nat, wk N sh fr n k = 0 := by
  intro n
  cases n with
  | zero =>
    show (if _ then _ else _) = _
    rw [if_neg (fun q => by rw [h] at q; exact absurd q.1 (by decide))]
  | succ n =>
    show (if _ then _ else _) = _
    rw [if_pos h]
theorem ab_sub {a b c : Int32} (h : a + b = c) : c - b = a := by rw [← h]; exact Int32.add_sub_cancel a b
theorem wk_0 {N : Net} (hN : netOK N) {sh : Int32} {fr n p : Nat} (hp : p < N.1) (hs : bt sh p = false) : wk N sh fr (n + 1) (2 * p) = tot N sh fr n (nA N p) - wk N sh fr n (2 * p + 1) := by
  have hq := hN.2 p hp
  have h := s32_ex (N := N) (h := wk N sh fr n) (e := nA N p) (p := p) (c := 2 * p + 1) (by omega) (ouE_1 N p) (fun j h1 h2 => by
    have hj : j = 2 * p := by omega
    rw [hj, ouE_0]; exact fun q => hq.2.2.1 q.symm) (2 * N.1)
  rw [if_pos (by omega)] at h
  have e : wk N sh fr (n + 1) (2 * p) = s32 (2 * N.1) (fun j => if ¬ j / 2 = p ∧ ouE N j = nA N p then wk N sh fr n j else 0) := by
    show (if bt sh (2 * p / 2) = true then 0 else s32 (2 * N.1) (fun j => if ¬ j / 2 = 2 * p / 2 ∧ ouE N j = inE N (2 * p) then wk N sh fr n j else 0)) = _
    rw [show 2 * p / 2 = p by omega, if_neg (by rw [hs]; decide), inE_0]
  rw [e]
  exact (ab_sub h).symm
theorem wk_1 {N : Net} (hN : netOK N) {sh : Int32} {fr n p : Nat} (hp : p < N.1) (hs : bt sh p = false) : wk N sh fr (n + 1) (2 * p + 1) = tot N sh fr n (nB N p) - wk N sh fr n (2 * p) := by
  have hq := hN.2 p hp
  have h := s32_ex (N := N) (h := wk N sh fr n) (e := nB N p) (p := p) (c := 2 * p) (by omega) (ouE_0 N p) (fun j h1 h2 => by
    have hj : j = 2 * p + 1 := by omega
    rw [hj, ouE_1]; exact hq.2.2.1) (2 * N.1)
  rw [if_pos (by omega)] at h
  have e : wk N sh fr (n + 1) (2 * p + 1) = s32 (2 * N.1) (fun j => if ¬ j / 2 = p ∧ ouE N j = nB N p then wk N sh fr n j else 0) := by
    show (if bt sh ((2 * p + 1) / 2) = true then 0 else s32 (2 * N.1) (fun j => if ¬ j / 2 = (2 * p + 1) / 2 ∧ ouE N j = inE N (2 * p + 1) then wk N sh fr n j else 0)) = _
    rw [show (2 * p + 1) / 2 = p by omega, if_neg (by rw [hs]; decide), inE_1]
  rw [e]
  exact (ab_sub h).symm
/-- in how many ways she came through pipe p to its second end, to its first one, behind n bells -/
def t2 (N : Net) (sh : Int32) (fr : Nat) : Nat → Nat → Int32
  | 0, _ => 0
  | n + 1, p => wk N sh fr n (2 * p)
def t1 (N : Net) (sh : Int32) (fr : Nat) : Nat → Nat → Int32
  | 0, _ => 0
  | n + 1, p => wk N sh fr n (2 * p + 1)
theorem t2_s {N : Net} (hN : netOK N) {sh : Int32} {fr n p : Nat} (hp : p < N.1) (hs : bt sh p = false) : tt N sh fr n (nA N p) - t1 N sh fr n p = t2 N sh fr (n + 1) p := by
  cases n with
  | zero =>
    show (if fr = nA N p then (1 : Int32) else 0) - 0 = (if bt sh (2 * p / 2) = false ∧ inE N (2 * p) = fr then 1 else 0)
    rw [Int32.sub_zero, show 2 * p / 2 = p by omega, inE_0]
    by_cases h : fr = nA N p
    · rw [if_pos h, if_pos ⟨hs, h.symm⟩]
    · rw [if_neg h, if_neg (fun q => h q.2.symm)]
  | succ n => exact (wk_0 hN hp hs).symm
theorem t1_s {N : Net} (hN : netOK N) {sh : Int32} {fr n p : Nat} (hp : p < N.1) (hs : bt sh p = false) : tt N sh fr n (nB N p) - t2 N sh fr n p = t1 N sh fr (n + 1) p := by
  cases n with
  | zero =>
    show (if fr = nB N p then (1 : Int32) else 0) - 0 = (if bt sh ((2 * p + 1) / 2) = false ∧ inE N (2 * p + 1) = fr then 1 else 0)
    rw [Int32.sub_zero, show (2 * p + 1) / 2 = p by omega, inE_1]
    by_cases h : fr = nB N p
    · rw [if_pos h, if_pos ⟨hs, h.symm⟩]
    · rw [if_neg h, if_neg (fun q => h q.2.symm)]
  | succ n => exact (wk_1 hN hp hs).symm
theorem t_shut {N : Net} {sh : Int32} {fr n p : Nat} (hs : bt sh p = true) : t2 N sh fr n p = 0 ∧ t1 N sh fr n p = 0 := by
  cases n with
  | zero => exact ⟨rfl, rfl⟩
  | succ n => exact ⟨wk_shut (by rw [show 2 * p / 2 = p by omega]; exact hs) n, wk_shut (by rw [show (2 * p + 1) / 2 = p by omega]; exact hs) n⟩
def cRo (k : Nat) : Bool := k == 23 || k == 24 || k == 25
def HC (N : Net) (sh : Int32) (fr n : Nat) (g : Sg) : Prop := (∀ e, e < 8 → g 23 e = tt N sh fr n e) ∧ ∀ p, p < N.1 → g 24 p = t1 N sh fr n p ∧ g 25 p = t2 N sh fr n p
theorem NC.ro {N : Net} {g g' : Sg} (h : NC N g) (hk : ∀ k, cRo k = false → g' k = g k) : NC N g' := h.of (hk 1 rfl) (hk 3 rfl) (hk 4 rfl) (hk 5 rfl) (hk 6 rfl)
theorem Sr_ring {N : Net} {sh : Int32} {fr n : Nat} {g0 : Sg} {Q : Sg → Prop} (hN : NC N g0) (h9 : g0 1 9 = sh) (hH : HC N sh fr n g0) (hq : ∀ g', (∀ k, cRo k = false → g' k = g0 k) → HC N sh fr (n + 1) g' → Q g') : Cr_ring g0 Q := by
  have h16 := hN.1.1
  have snd : ∀ (d p : Nat) (g : Sg), p + d = N.1 → (∀ k, cRo k = false → g k = g0 k) → (∀ q, q < N.1 → g 24 q = t1 N sh fr (n + 1) q ∧ g 25 q = t2 N sh fr (n + 1) q) → (∀ e, e < 8 → g 23 e = s32 (2 * p) (fun k => if ouE N k = e then wk N sh fr n k else 0)) → Hr_ring_101 (nI p) g Q := by
    intro d
    induction d with
    | zero =>
      intro p g hp hfr ht he
      have hpn : p = N.1 := by omega
      refine Vr_ring_101 ?_
      rw [hfr 1 rfl, hN.2.1, hpn]
      rw [hpn] at he
      exact brT (nI_le (Nat.le_refl _) (by omega)) (hq g hfr ⟨he, ht⟩)
    | succ d ih =>
      intro p g hp hfr ht he
      have hpn : p < N.1 := by omega
      obtain ⟨q1, q2, q3, -⟩ := hN.1.2 p hpn
      refine Vr_ring_101 ?_
      rw [hfr 1 rfl, hN.2.1, nI_clamp (show p < 2 ^ 31 by omega), hfr 3 rfl, hfr 4 rfl, (hN.2.2 p hpn).1, (hN.2.2 p hpn).2.1, nI_clamp (show nA N p < 2 ^ 31 by omega), nI_clamp (show nB N p < 2 ^ 31 by omega), nI_1]
      have i16 : vp_in (nI p) 16 := vp_in_nI (by omega) (by omega)
      have iA : vp_in (nI (nA N p)) 8 := vp_in_nI (by omega) (by omega)
      have iB : vp_in (nI (nB N p)) 8 := vp_in_nI (by omega) (by omega)
      refine brF (nI_ge hpn (by omega)) ⟨i16, iA, i16, iA, i16, iB, i16, iB, ?_⟩
      refine ih (p + 1) _ (by omega) (fun k hk => ?_) (fun q hq' => ?_) (fun e he8 => ?_)
      · have h23 : k ≠ 23 := fun hx => by rw [hx] at hk; cases hk
        funext j; rw [sg_k h23, sg_k h23, hfr k hk]
      · rw [sg_k (by decide), sg_k (by decide), sg_k (by decide), sg_k (by decide)]; exact ht q hq'
      · have e1 : s32 (2 * (p + 1)) (fun k => if ouE N k = e then wk N sh fr n k else 0) = s32 (2 * p) (fun k => if ouE N k = e then wk N sh fr n k else 0) + (if ouE N (2 * p) = e then wk N sh fr n (2 * p) else 0) + (if ouE N (2 * p + 1) = e then wk N sh fr n (2 * p + 1) else 0) := rfl
        rw [e1, ouE_0, ouE_1, ← he e he8, (ht p hpn).1, (ht p hpn).2]
        by_cases hB : e = nB N p
        · subst hB
          rw [sg_s, sg_j (fun h => q3 h.symm), if_pos rfl, if_neg q3, Int32.add_zero]
          rfl
        · rw [sg_j hB, if_neg (fun h => hB h.symm), Int32.add_zero]
          by_cases hA : e = nA N p
          · subst hA
            rw [sg_s, if_pos rfl]
            rfl
          · rw [sg_j hA, if_neg (fun h => hA h.symm), Int32.add_zero]
  have fst : ∀ (d p : Nat) (g : Sg), p + d = N.1 → (∀ k, k ≠ 24 → k ≠ 25 → g k = g0 k) → (∀ q, q < N.1 → (q < p → g 24 q = t1 N sh fr (n + 1) q ∧ g 25 q = t2 N sh fr (n + 1) q) ∧ (p ≤ q → g 24 q = t1 N sh fr n q ∧ g 25 q = t2 N sh fr n q)) → Hr_ring_2 (nI p) g Q := by
    intro d
    induction d with
    | zero =>
      intro p g hp hfr ht
      have hpn : p = N.1 := by omega
      refine Vr_ring_2 ?_
      rw [hfr 1 (by decide) (by decide), hN.2.1, hpn]
      refine brT (nI_le (Nat.le_refl _) (by omega)) (Sk_fill (n := 8) rfl (by omega) ?_)
      have z : ∀ k, k ≠ 23 → sgF g 23 8 0 k = g k := fun k hk => by unfold sgF; exact sgC_k hk
      refine snd N.1 0 _ (by omega) (fun k hk => ?_) (fun q hq' => ?_) (fun e he => ?_)
      · have h23 : k ≠ 23 := fun hx => by rw [hx] at hk; cases hk
        rw [z k h23, hfr k (fun hx => by rw [hx] at hk; cases hk) (fun hx => by rw [hx] at hk; cases hk)]
      · rw [z 24 (by decide), z 25 (by decide)]; exact (ht q hq').1 (by omega)
      · unfold sgF
        rw [sgC_s]
        simp [he]
        rfl
    | succ d ih =>
      intro p g hp hfr ht
      have hpn : p < N.1 := by omega
      obtain ⟨q1, q2, q3, -⟩ := hN.1.2 p hpn
      refine Vr_ring_2 ?_
      rw [hfr 1 (by decide) (by decide), hN.2.1, h9, tbb_n _ (show p < 32 by omega), nI_clamp (show p < 2 ^ 31 by omega), hfr 3 (by decide) (by decide), hfr 4 (by decide) (by decide), (hN.2.2 p hpn).1, (hN.2.2 p hpn).2.1, nI_clamp (show nA N p < 2 ^ 31 by omega), nI_clamp (show nB N p < 2 ^ 31 by omega), nI_1, hfr 23 (by decide) (by decide)]
      have i16 : vp_in (nI p) 16 := vp_in_nI (by omega) (by omega)
      have iA : vp_in (nI (nA N p)) 8 := vp_in_nI (by omega) (by omega)
      have iB : vp_in (nI (nB N p)) 8 := vp_in_nI (by omega) (by omega)
      refine brF (nI_ge hpn (by omega)) ⟨fun hs => ?_, fun hs => ⟨i16, iA, i16, i16, iB, i16, i16, i16, ?_⟩⟩
      · refine ih (p + 1) g (by omega) hfr (fun q hq' => ⟨fun hlt => ?_, fun hge => (ht q hq').2 (by omega)⟩)
        by_cases hqp : q = p
        · rw [hqp]
          have := (ht p hpn).2 (Nat.le_refl p)
          rw [(t_shut hs).1, (t_shut hs).2] at this ⊢
          exact this
        · exact (ht q hq').1 (by omega)
      · have hs' : bt sh p = false := by simpa using hs
        have hp0 := (ht p hpn).2 (Nat.le_refl p)
        rw [hp0.1, hp0.2, hH.1 _ q1, hH.1 _ q2, t2_s hN.1 hpn hs', t1_s hN.1 hpn hs']
        refine ih (p + 1) _ (by omega) (fun k h24 h25 => by funext j; rw [sg_k h24, sg_k h25, hfr k h24 h25]) (fun q hq' => ⟨fun hlt => ?_, fun hge => ?_⟩)
        · by_cases hqp : q = p
          · rw [hqp, sg_s, sg_k (by decide), sg_s]; exact ⟨rfl, rfl⟩
          · rw [sg_j hqp, sg_k (by decide), sg_k (by decide), sg_j hqp]; exact (ht q hq').1 (by omega)
        · have hqp : q ≠ p := by omega
          rw [sg_j hqp, sg_k (by decide), sg_k (by decide), sg_j hqp]; exact (ht q hq').2 (by omega)
  exact Vr_ring (fst N.1 0 g0 (by omega) (fun _ _ _ => rfl) (fun q hq' => ⟨fun h => absurd h (by omega), fun _ => hH.2 q hq'⟩))
theorem Sr_follow {N : Net} {sh : Int32} {fr bl : Nat} {g0 : Sg} {Q : Sg → Prop} (hN : NC N g0) (h9 : g0 1 9 = sh) (hfr8 : fr < 8) (hbl : bl ≤ 6) (hq : ∀ g', (∀ k, cRo k = false → g' k = g0 k) → HC N sh fr bl g' → Q g') : Cr_follow (nI fr) (nI bl) g0 Q := by
  have h16 := hN.1.1
  have loop : ∀ (d i : Nat) (g : Sg), i + d = bl → (∀ k, cRo k = false → g k = g0 k) → HC N sh fr i g → Hr_follow_33 (nI bl) (nI i) g Q := by
    intro d
    induction d with
    | zero =>
      intro i g hi hfr hH
      have : i = bl := by omega
      subst this
      exact Vr_follow_33 (brT (nI_le (Nat.le_refl _) (by omega)) (hq g hfr hH))
    | succ d ih =>
      intro i g hi hfr hH
      refine Vr_follow_33 (brF (nI_ge (by omega) (by omega)) (Sr_ring (hN.ro hfr) (by rw [hfr 1 rfl]; exact h9) hH (fun g' hfr' hH' => ?_)))
      rw [nI_1]
      exact ih (i + 1) g' (by omega) (fun k hk => (hfr' k hk).trans (hfr k hk)) hH'
  refine Vr_follow (Sk_fill (n := 8) rfl (by omega) (Sk_fill (n := 16) rfl (by omega) (Sk_fill (n := 16) rfl (by omega) ⟨vp_in_nI (by omega) (by omega), ?_⟩)))
  rw [nI_clamp (show fr < 2 ^ 31 by omega)]
  have zk : ∀ (g : Sg) (k n k' : Nat), k' ≠ k → sgF g k n 0 k' = g k' := fun g k n k' hk => by unfold sgF; exact sgC_k hk
  have zs : ∀ (g : Sg) (k n j : Nat), j < n → sgF g k n 0 k j = 0 := fun g k n j hj => by unfold sgF; rw [sgC_s]; simp [hj]
  refine loop bl 0 _ (by omega) (fun k hk => ?_) ⟨fun e he => ?_, fun p hp => ?_⟩
  · have h23 : k ≠ 23 := fun hx => by rw [hx] at hk; cases hk
    have h24 : k ≠ 24 := fun hx => by rw [hx] at hk; cases hk
    have h25 : k ≠ 25 := fun hx => by rw [hx] at hk; cases hk
    funext j
    rw [sg_k h23, zk _ _ _ _ h25, zk _ _ _ _ h24, zk _ _ _ _ h23]
  · show _ = (if fr = e then (1 : Int32) else 0)
    by_cases hx : e = fr
    · rw [hx, sg_s, if_pos rfl]
    · rw [sg_j hx, zk _ _ _ _ (by decide), zk _ _ _ _ (by decide), zs _ _ _ _ he, if_neg (fun q => hx q.symm)]
  · refine ⟨?_, ?_⟩
    · rw [sg_k (by decide), zk _ _ _ _ (by decide), zs _ _ _ _ (by omega)]; rfl
    · rw [sg_k (by decide), zs _ _ _ _ (by omega)]; rfl
/-- the ends at which she can be -/
def psE (F : Nat → Int32) (k : Nat) : Int32 := bsf k (fun e => !decide (F e ≤ 0))
theorem Sr_possibleEnds {F : Nat → Int32} {g : Sg} {Q : Int32 → Sg → Prop} (hF : ∀ e, e < 8 → g 23 e = F e) (hQ : Q (psE F 8) g) : Cr_possibleEnds g Q := by
  have loop : ∀ (d e : Nat), e + d = 8 → Hr_possibleEnds_4 (psE F e) (nI e) g Q := by
    intro d
    induction d with
    | zero =>
      intro e he
      have : e = 8 := by omega
      subst this
      exact Vr_possibleEnds_4 (brT (by decide) hQ)
    | succ d ih =>
      intro e he
      have h1 := ih (e + 1) (by omega)
      have e1 : psE F (e + 1) = psE F e ||| (if (!decide (F e ≤ 0)) = true then sb (nI e) else 0) := rfl
      rw [e1] at h1
      refine Vr_possibleEnds_4 (brF (fun hx => ?_) ⟨vp_in_nI (by omega) (by omega), ?_⟩)
      · have : 8 ≤ e := (nI_leI (a := 8) (b := e) (by omega) (by omega)).mp hx
        omega
      · rw [nI_clamp (show e < 2 ^ 31 by omega), hF e (by omega), nI_1]
        refine ⟨fun hx => ?_, fun hx => ?_⟩
        · rw [if_neg (by simp [hx]), Int32.or_zero] at h1; exact h1
        · rw [if_pos (by simp [hx])] at h1; exact h1
  exact Vr_possibleEnds (loop 8 0 (by omega))
/-- the answer of heard -/
def hrd (N : Net) (sh : Int32) (fr bl : Nat) (x : Int32) : Int32 := if x = -1 then psE (tt N sh fr bl) 8 else tt N sh fr bl x.toNatClampNeg
theorem m1_7 {x : Int32} (h : (-1) ≤ x ∧ x ≤ 7) : x = -1 ∨ ∃ e : Nat, e < 8 ∧ x = nI e := by
  by_cases h0 : x = -1
  · exact Or.inl h0
  · right
    have hneg : ¬ x < 0 := fun hx => by
      rw [Int32.lt_iff_toInt_lt] at hx
      have h1 := h.1
      rw [Int32.le_iff_toInt_le] at h1
      have z1 : (-1 : Int32).toInt = -1 := by decide
      have z0 : (0 : Int32).toInt = 0 := by decide
      exact h0 (Int32.toInt_inj.mp (by rw [z1]; omega))
    obtain ⟨k, h1, h2⟩ := rng (n := 7) (by omega) ⟨Int32.not_lt.mp hneg, h.2⟩
    exact ⟨k, by omega, h2⟩
theorem Sx_heard {g : Sg} {bv : Nat → Nat} {n : Nat} {sh : Int32} {tk hd m : Nat} {f t : Nat → Int32} {fr bl : Nat} {x3 : Int32} {Q : Int32 → Sg → Prop} (hX : RelX g bv n sh tk hd m f t) (hfr : fr < 8) (hbl : bl ≤ 6) (h3 : (-1) ≤ x3 ∧ x3 ≤ 7) (hQ : ∀ g', Kp scA g g' → Q (hrd (NT bv n) sh fr bl x3) g') : Cx_heard (nI fr) (nI bl) x3 g Q := by
  refine Vx_heard (brT (isE_n hfr) (brT (rng' (n := 6) (by omega) hbl) (brT h3 (Sr_follow hX.1.net hX.2.2.1.1 hfr hbl (fun g1 hf1 hH => ?_)))))
  have hk : Kp scA g g1 := fun k j hk => by
    rw [hf1 k]
    cases hc : cRo k
    · rfl
    · simp [cRo] at hc
      rcases hc with (hc | hc) | hc <;> (subst hc; simp [scA] at hk)
  have hq := hQ g1 hk
  unfold hrd at hq
  refine ⟨fun hx => ?_, fun hx => ?_⟩
  · rw [if_pos hx] at hq
    exact Sr_possibleEnds hH.1 hq
  · rw [if_neg hx] at hq
    rcases m1_7 h3 with h | ⟨e, he, rfl⟩
    · exact absurd h hx
    · rw [nI_clamp (show e < 2 ^ 31 by omega)] at hq ⊢
      rw [hH.1 e he]
      exact ⟨vp_in_nI (by omega) (by omega), hq⟩
