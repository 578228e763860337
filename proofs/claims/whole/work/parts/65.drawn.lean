/-! how many wires can be drawn one by one -/
def opl (sh : Int32) (tk : Nat) (h : Nat → Nat) (p : Nat) : Bool := !bt sh p && decide (h p < tk)
def addW (h : Nat → Nat) (l : List Nat) (c : Nat) : Nat → Nat := fun p => h p + if p ∈ l then c else 0
noncomputable def dct (N : Net) (sh : Int32) (tk a b : Nat) : Nat → (Nat → Nat) → Nat
  | 0, _ => 0
  | k + 1, h => if way N (opl sh tk h) a b = [] then 0 else 1 + dct N sh tk a b k (addW h (way N (opl sh tk h) a b) 1)
def rmn (N : Net) (tk : Nat) (h : Nat → Nat) : Nat := sm N.1 (fun p => tk - h p)
theorem sm_drop {f f' : Nat → Nat} {c : Nat} : ∀ n : Nat, (∀ p, p < n → f' p ≤ f p) → ∀ q, q < n → f' q + c ≤ f q → sm n f' + c ≤ sm n f := by
  have mono : ∀ n : Nat, (∀ p, p < n → f' p ≤ f p) → sm n f' ≤ sm n f := by
    intro n
    induction n with
    | zero => intro _; exact Nat.le_refl _
    | succ n ih =>
      intro h
      have h1 := ih (fun p hp => h p (by omega))
      have h2 := h n (by omega)
      show sm n f' + f' n ≤ sm n f + f n
      omega
  intro n
  induction n with
  | zero => intro _ q hq; omega
  | succ n ih =>
    intro h q hq hc
    have h2 := h n (by omega)
    show sm n f' + f' n + c ≤ sm n f + f n
    by_cases hqn : q = n
    · subst hqn
      have := mono q (fun p hp => h p (by omega))
      omega
    · have := ih (fun p hp => h p (by omega)) q (by omega) hc
      omega
theorem sm_ub {f : Nat → Nat} {c : Nat} (h : ∀ p, f p ≤ c) : ∀ n : Nat, sm n f ≤ n * c := by
  intro n
  induction n with
  | zero => exact Nat.zero_le _
  | succ n ih =>
    have := h n
    show sm n f + f n ≤ (n + 1) * c
    rw [Nat.succ_mul]
    omega
theorem rmn_add {N : Net} {tk : Nat} {h : Nat → Nat} {l : List Nat} {c : Nat} (hl : l ≠ []) (hN : ∀ p ∈ l, p < N.1) (hc : ∀ p ∈ l, h p + c ≤ tk) : rmn N tk (addW h l c) + c ≤ rmn N tk h := by
  obtain ⟨q, hq⟩ := List.exists_mem_of_ne_nil l hl
  refine sm_drop N.1 (fun p _ => ?_) q (hN q hq) ?_
  · show tk - (h p + _) ≤ tk - h p
    omega
  · have := hc q hq
    show tk - (h q + if q ∈ l then c else 0) + c ≤ tk - h q
    rw [if_pos hq]
    omega
theorem way_opl {N : Net} (hN : netOK N) {sh : Int32} {tk a b : Nat} {h : Nat → Nat} (ha : a < 8) (hb : b < 8) : (way N (opl sh tk h) a b).length ≤ 7 ∧ (way N (opl sh tk h) a b).Nodup ∧ ∀ p ∈ way N (opl sh tk h) a b, p < N.1 ∧ bt sh p = false ∧ h p < tk := by
  obtain ⟨w1, w2, w3, -⟩ := way_ok hN (opl sh tk h) ha hb
  refine ⟨w1, w2, fun p hp => ⟨(w3 p hp).1, ?_⟩⟩
  have := (w3 p hp).2
  unfold opl at this
  simp at this
  exact this
theorem dct_fuel {N : Net} (hN : netOK N) {sh : Int32} {tk a b : Nat} (ha : a < 8) (hb : b < 8) : ∀ (k k' : Nat) (h : Nat → Nat), rmn N tk h ≤ k → rmn N tk h ≤ k' → dct N sh tk a b k h = dct N sh tk a b k' h := by
  have z : ∀ h : Nat → Nat, rmn N tk h = 0 → way N (opl sh tk h) a b = [] := fun h h0 => by
    refine Classical.byContradiction (fun hne => ?_)
    have w3 := (way_opl hN (sh := sh) (tk := tk) (h := h) ha hb).2.2
    have := rmn_add (N := N) (tk := tk) (h := h) (c := 1) hne (fun p hp => (w3 p hp).1) (fun p hp => by have := (w3 p hp).2.2; omega)
    omega
  intro k
  induction k with
  | zero =>
    intro k' h h0 _
    cases k' with
    | zero => rfl
    | succ k' =>
      show 0 = (if _ then _ else _)
      rw [if_pos (z h (by omega))]
  | succ k ih =>
    intro k' h h1 h2
    cases k' with
    | zero =>
      show (if _ then _ else _) = 0
      rw [if_pos (z h (by omega))]
    | succ k' =>
      show (if _ then _ else _) = (if _ then _ else _)
      by_cases he : way N (opl sh tk h) a b = []
      · rw [if_pos he, if_pos he]
      · rw [if_neg he, if_neg he]
        have w3 := (way_opl hN (sh := sh) (tk := tk) (h := h) ha hb).2.2
        have := rmn_add (N := N) (tk := tk) (h := h) (c := 1) he (fun p hp => (w3 p hp).1) (fun p hp => by have := (w3 p hp).2.2; omega)
        rw [ih k' _ (by omega) (by omega)]
theorem dct_batch {N : Net} {sh : Int32} {tk a b k c : Nat} {h : Nat → Nat} (he : way N (opl sh tk h) a b ≠ []) (hc : ∀ p ∈ way N (opl sh tk h) a b, h p + c ≤ tk) : ∀ j : Nat, j ≤ c → dct N sh tk a b (k + c) h = j + dct N sh tk a b (k + c - j) (addW h (way N (opl sh tk h) a b) j) := by
  intro j
  induction j with
  | zero =>
    intro _
    have : addW h (way N (opl sh tk h) a b) 0 = h := by funext p; unfold addW; split <;> rfl
    rw [this, Nat.zero_add]
    rfl
  | succ j ih =>
    intro hj
    rw [ih (by omega)]
    have hop : opl sh tk (addW h (way N (opl sh tk h) a b) j) = opl sh tk h := by
      funext p
      have hv : decide (addW h (way N (opl sh tk h) a b) j p < tk) = decide (h p < tk) := by
        unfold addW
        by_cases hp : p ∈ way N (opl sh tk h) a b
        · have := hc p hp
          rw [if_pos hp, decide_eq_true (show h p + j < tk by omega), decide_eq_true (show h p < tk by omega)]
        · rw [if_neg hp, Nat.add_zero]
      show (!bt sh p && decide (addW h (way N (opl sh tk h) a b) j p < tk)) = (!bt sh p && decide (h p < tk))
      rw [hv]
    have hadd : addW (addW h (way N (opl sh tk h) a b) j) (way N (opl sh tk h) a b) 1 = addW h (way N (opl sh tk h) a b) (j + 1) := by
      funext p
      unfold addW
      by_cases hp : p ∈ way N (opl sh tk h) a b
      · rw [if_pos hp, if_pos hp, if_pos hp, Nat.add_assoc]
      · rw [if_neg hp, if_neg hp, if_neg hp, Nat.add_zero]
    have e : k + c - j = (k + c - (j + 1)) + 1 := by omega
    rw [e]
    show j + (if way N (opl sh tk (addW h (way N (opl sh tk h) a b) j)) a b = [] then 0 else 1 + dct N sh tk a b (k + c - (j + 1)) (addW (addW h (way N (opl sh tk h) a b) j) (way N (opl sh tk (addW h (way N (opl sh tk h) a b) j)) a b) 1)) = _
    rw [hop, if_neg he, hadd]
    omega
/-! the class -/
theorem Sw_drawAlongRow {l : List Nat} {x : Int32} {g0 : Sg} {Q : Sg → Prop} (hr : RowAt g0 l) (hl : l.length ≤ 7) (hnd : l.Nodup) (hl16 : ∀ p ∈ l, p < 16) (hq : ∀ g', (∀ k, k ≠ 8 → g' k = g0 k) → (∀ p, g' 8 p = if p ∈ l then g0 8 p + x else g0 8 p) → Q g') : Cw_drawAlongRow x g0 Q := by
  have loop : ∀ (d i : Nat) (g : Sg), i + d = l.length → (∀ k, k ≠ 8 → g k = g0 k) → (∀ p, g 8 p = if p ∈ l.take i then g0 8 p + x else g0 8 p) → Hw_drawAlongRow_2 x (nI i) g Q := by
    intro d
    induction d with
    | zero =>
      intro i g hi hfr h8
      have hil : i = l.length := by omega
      rw [hil, List.take_length] at h8
      refine Vw_drawAlongRow_2 ?_
      rw [hfr 7 (by decide), hr.1, hil]
      exact brT (nI_le (Nat.le_refl _) (by omega)) (hq g hfr h8)
    | succ d ih =>
      intro i g hi hfr h8
      have hil : i < l.length := by omega
      have hp16 := hl16 _ (getD_mem hil)
      have ip : vp_in (nI (l.getD i 0)) 16 := vp_in_nI hp16 (by omega)
      refine Vw_drawAlongRow_2 ?_
      rw [hfr 7 (by decide), hr.1, nI_clamp (show i < 2 ^ 31 by omega), hfr 10 (by decide), hr.2 i hil, nI_clamp (show l.getD i 0 < 2 ^ 31 by omega), nI_1]
      refine brF (nI_ge hil (by omega)) ⟨vp_in_nI (by omega) (by omega), ip, ip, ih (i + 1) _ (by omega) (fun k hk => by funext j; rw [sg_k hk, hfr k hk]) (fun p => ?_)⟩
      rw [take_snoc hil]
      by_cases hpp : p = l.getD i 0
      · rw [hpp, sg_s, h8, if_neg (nd_take hnd hil), if_pos (by simp)]
      · rw [sg_j hpp, h8]
        by_cases hm : p ∈ l.take i
        · rw [if_pos hm, if_pos (by simp [hm])]
        · rw [if_neg hm, if_neg (by simp only [List.mem_append, List.mem_singleton]; exact fun q => q.elim hm hpp)]
  exact Vw_drawAlongRow (loop l.length 0 g0 (by omega) (fun _ _ => rfl) (fun p => by simp))
def rom (tk : Nat) (h : Nat → Nat) (l : List Nat) : Nat := l.foldl (fun m p => if tk - h p < m then tk - h p else m) tk
theorem rom_snoc (tk : Nat) (h : Nat → Nat) (l : List Nat) (p : Nat) : rom tk h (l ++ [p]) = if tk - h p < rom tk h l then tk - h p else rom tk h l := by unfold rom; rw [List.foldl_append]; rfl
theorem rom_ok {tk : Nat} {h : Nat → Nat} (l : List Nat) : rom tk h l ≤ tk ∧ (∀ p ∈ l, rom tk h l ≤ tk - h p) ∧ (rom tk h l = tk ∨ ∃ p ∈ l, rom tk h l = tk - h p) := by
  have key : ∀ (l : List Nat) (m : Nat), l.foldl (fun m p => if tk - h p < m then tk - h p else m) m ≤ m ∧ (∀ p ∈ l, l.foldl (fun m p => if tk - h p < m then tk - h p else m) m ≤ tk - h p) ∧ (l.foldl (fun m p => if tk - h p < m then tk - h p else m) m = m ∨ ∃ p ∈ l, l.foldl (fun m p => if tk - h p < m then tk - h p else m) m = tk - h p) := by
    intro l
    induction l with
    | nil => intro m; exact ⟨Nat.le_refl _, fun p hp => absurd hp List.not_mem_nil, Or.inl rfl⟩
    | cons q l ih =>
      intro m
      obtain ⟨h1, h2, h3⟩ := ih (if tk - h q < m then tk - h q else m)
      have hm : (if tk - h q < m then tk - h q else m) ≤ m ∧ (if tk - h q < m then tk - h q else m) ≤ tk - h q := by split <;> omega
      rw [List.foldl_cons]
      refine ⟨by omega, fun p hp => ?_, ?_⟩
      · rcases List.mem_cons.mp hp with hp | hp
        · rw [hp]; omega
        · exact h2 p hp
      · rcases h3 with h3 | ⟨p, hp, h3⟩
        · by_cases hlt : tk - h q < m
          · rw [if_pos hlt] at h3 ⊢
            exact Or.inr ⟨q, List.mem_cons_self, h3⟩
          · rw [if_neg hlt] at h3 ⊢
            exact Or.inl h3
        · exact Or.inr ⟨p, List.mem_cons_of_mem _ hp, h3⟩
  exact key l tk
theorem Sw_roomInRow {l : List Nat} {tk : Nat} {h : Nat → Nat} {g : Sg} {Q : Int32 → Sg → Prop} (hr : RowAt g l) (hl : l.length ≤ 7) (hl16 : ∀ p ∈ l, p < 16) (h10 : g 1 10 = nI tk) (htk : tk ≤ 4) (h8 : ∀ p, p < 16 → g 8 p = nI (h p)) (hht : ∀ p, h p ≤ tk) (hQ : Q (nI (rom tk h l)) g) : Cw_roomInRow g Q := by
  have loop : ∀ (d i : Nat), i + d = l.length → Hw_roomInRow_10 (nI (rom tk h (l.take i))) (nI i) g Q := by
    intro d
    induction d with
    | zero =>
      intro i hi
      have hil : i = l.length := by omega
      refine Vw_roomInRow_10 ?_
      rw [hr.1, hil, List.take_length]
      exact brT (nI_le (Nat.le_refl _) (by omega)) hQ
    | succ d ih =>
      intro i hi
      have hil : i < l.length := by omega
      have hp16 := hl16 _ (getD_mem hil)
      have h1 := ih (i + 1) (by omega)
      rw [take_snoc hil, rom_snoc] at h1
      have hle := (rom_ok (tk := tk) (h := h) (l.take i)).1
      have hhp := hht (l.getD i 0)
      refine Vw_roomInRow_10 ?_
      rw [hr.1, nI_clamp (show i < 2 ^ 31 by omega), hr.2 i hil, nI_clamp (show l.getD i 0 < 2 ^ 31 by omega), nI_1, h10, h8 _ hp16, pk_sub hhp]
      refine brF (nI_ge hil (by omega)) ⟨vp_in_nI (by omega) (by omega), vp_in_nI (by omega) (by omega), ?_⟩
      by_cases hlt : tk - h (l.getD i 0) < rom tk h (l.take i)
      · rw [if_pos (nI_lt hlt (by omega))]
        rw [if_pos hlt] at h1
        exact h1
      · rw [if_neg (nI_nlt (by omega) (by omega))]
        rw [if_neg hlt] at h1
        exact h1
  have h0 := loop l.length 0 (by omega)
  refine Vw_roomInRow ?_
  rw [h10]
  exact h0
theorem OC_opl {g : Sg} {sh : Int32} {tk : Nat} {h : Nat → Nat} (h9 : g 1 9 = sh) (h10 : g 1 10 = nI tk) (htk : tk ≤ 4) (h8 : ∀ p, p < 16 → g 8 p = nI (h p)) (hht : ∀ p, h p ≤ tk) {p : Nat} (hp : p < 16) : OC g p = opl sh tk h p := by
  unfold OC opl
  rw [h9, h10, h8 p hp]
  have := hht p
  have : (nI (h p) < nI tk) = (h p < tk) := propext (nI_ltI (by omega) (by omega))
  simp only [this]
theorem OM_opl {g : Sg} {sh : Int32} {tk : Nat} {h : Nat → Nat} (h9 : g 41 0 = sh) (h10 : g 41 1 = nI tk) (htk : tk ≤ 4) (h8 : ∀ p, p < 16 → g 44 p = nI (h p)) (hht : ∀ p, h p ≤ tk) {p : Nat} (hp : p < 16) : OM g p = opl sh tk h p := by
  unfold OM opl
  rw [h9, h10, h8 p hp]
  have := hht p
  have : (nI (h p) < nI tk) = (h p < tk) := propext (nI_ltI (by omega) (by omega))
  simp only [this]
def nop (N : Net) (tk : Nat) (h : Nat → Nat) : Nat := sm N.1 (fun p => b1 (decide (h p < tk)))
theorem Sw_drawAll {N : Net} {sh : Int32} {tk a b : Nat} {h0 : Nat → Nat} {g0 : Sg} {Q : Int32 → Sg → Prop} (hN : NC N g0) (h9 : g0 1 9 = sh) (h10 : g0 1 10 = nI tk) (htk : tk ≤ 4) (h80 : ∀ p, p < 16 → g0 8 p = nI (h0 p)) (hht0 : ∀ p, h0 p ≤ tk) (ha : a < 8) (hb : b < 8) (hab : a ≠ b)
    (hQ : ∀ g', (∀ k, k ≠ 7 → k ≠ 8 → k ≠ 9 → k ≠ 10 → g' k = g0 k) → Q (nI (dct N sh tk a b 64 h0)) g') : Cw_drawAll (nI a) (nI b) g0 Q := by
  have h16 := hN.1.1
  have r64 : ∀ h : Nat → Nat, rmn N tk h ≤ 64 := fun h => by
    have h1 := sm_ub (f := fun p => tk - h p) (c := 4) (fun p => by show tk - h p ≤ 4; omega) N.1
    have h2 : N.1 * 4 ≤ 64 := by omega
    exact Nat.le_trans h1 h2
  have loop : ∀ (d r s k : Nat) (h : Nat → Nat) (g : Sg), r + d = 16 → (∀ k, k ≠ 7 → k ≠ 8 → k ≠ 9 → k ≠ 10 → g k = g0 k) → (∀ p, p < 16 → g 8 p = nI (h p)) → (∀ p, h p ≤ tk) → nop N tk h + r ≤ 16 → rmn N tk h ≤ k → dct N sh tk a b 64 h0 = s + dct N sh tk a b k h → Hw_drawAll_5 (nI a) (nI b) (nI s) (nI r) g Q := by
    intro d
    induction d with
    | zero =>
      intro r s k h g hr hfr h8 hht hop hrm hA
      have hNg : NC N g := hN.of (hfr 1 (by decide) (by decide) (by decide) (by decide)) (hfr 3 (by decide) (by decide) (by decide) (by decide)) (hfr 4 (by decide) (by decide) (by decide) (by decide)) (hfr 5 (by decide) (by decide) (by decide) (by decide)) (hfr 6 (by decide) (by decide) (by decide) (by decide))
      have e1 := hfr 1 (by decide) (by decide) (by decide) (by decide)
      have hO : ∀ p, p < N.1 → OC g p = opl sh tk h p := fun p hp => OC_opl (by rw [e1]; exact h9) (by rw [e1]; exact h10) htk h8 hht (by omega)
      have hway := way_cg hN.1 hO ha hb
      have hem : way N (opl sh tk h) a b = [] := Classical.byContradiction (fun hne => by
        obtain ⟨q, hq⟩ := List.exists_mem_of_ne_nil _ hne
        have hq3 := (way_opl hN.1 (sh := sh) (tk := tk) (h := h) ha hb).2.2 q hq
        have := sm_drop (f := fun p => b1 (decide (h p < tk))) (f' := fun _ => 0) (c := 1) N.1 (fun p _ => Nat.zero_le _) q hq3.1 (by simp [b1, hq3.2.2])
        unfold nop at hop
        omega)
      refine Vw_drawAll_5 (brF (fun hx => ?_) (Sw_find hNg ha hb hab (fun g1 hf1 hrow => ?_)))
      · have := (nI_ltI (a := 16) (by omega) (by omega)).mp hx
        omega
      · rw [hway]
        refine ⟨fun _ => br0 ?_, fun hne => absurd hem hne⟩
        have hz : dct N sh tk a b k h = 0 := by
          cases k with
          | zero => rfl
          | succ k =>
            show (if _ then _ else _) = 0
            rw [if_pos hem]
        have hq := hQ g1 (fun c c7 c8 c9 c10 => (hf1 c c7 c9 c10).trans (hfr c c7 c8 c9 c10))
        rw [hA, hz] at hq
        exact hq
    | succ d ih =>
      intro r s k h g hr hfr h8 hht hop hrm hA
      have hNg : NC N g := hN.of (hfr 1 (by decide) (by decide) (by decide) (by decide)) (hfr 3 (by decide) (by decide) (by decide) (by decide)) (hfr 4 (by decide) (by decide) (by decide) (by decide)) (hfr 5 (by decide) (by decide) (by decide) (by decide)) (hfr 6 (by decide) (by decide) (by decide) (by decide))
      have e1 := hfr 1 (by decide) (by decide) (by decide) (by decide)
      have hO : ∀ p, p < N.1 → OC g p = opl sh tk h p := fun p hp => OC_opl (by rw [e1]; exact h9) (by rw [e1]; exact h10) htk h8 hht (by omega)
      have hway := way_cg hN.1 hO ha hb
      obtain ⟨w1, w2, w3⟩ := way_opl hN.1 (sh := sh) (tk := tk) (h := h) ha hb
      refine Vw_drawAll_5 (brF (fun hx => ?_) (Sw_find hNg ha hb hab (fun g1 hf1 hrow => ?_)))
      · have := (nI_ltI (a := 16) (by omega) (by omega)).mp hx
        omega
      · rw [hway] at hrow ⊢
        refine ⟨fun hem => br0 ?_, fun hne => br1 ?_⟩
        · have hz : dct N sh tk a b k h = 0 := by
            cases k with
            | zero => rfl
            | succ k =>
              show (if _ then _ else _) = 0
              rw [if_pos hem]
          have hq := hQ g1 (fun c c7 c8 c9 c10 => (hf1 c c7 c9 c10).trans (hfr c c7 c8 c9 c10))
          rw [hA, hz] at hq
          exact hq
        · have l16 : ∀ p ∈ way N (opl sh tk h) a b, p < 16 := fun p hp => by have := (w3 p hp).1; omega
          obtain ⟨m1, m2, m3⟩ := rom_ok (tk := tk) (h := h) (way N (opl sh tk h) a b)
          refine Sw_roomInRow (tk := tk) (h := h) hrow w1 l16 (by rw [hf1 1 (by decide) (by decide) (by decide), e1]; exact h10) htk (fun p hp => by rw [hf1 8 (by decide) (by decide) (by decide)]; exact h8 p hp) hht ?_
          refine Sw_drawAlongRow hrow w1 w2 l16 (fun g2 hf2 h82 => ?_)
          obtain ⟨c, hc⟩ : ∃ c, c = rom tk h (way N (opl sh tk h) a b) := ⟨_, rfl⟩
          rw [← hc] at m1 m2 m3 h82 ⊢
          have hcp : ∀ p ∈ way N (opl sh tk h) a b, h p + c ≤ tk := fun p hp => by
            have q1 := m2 p hp
            have q2 := (w3 p hp).2.2
            omega
          obtain ⟨q, hq, hqf⟩ : ∃ q, q ∈ way N (opl sh tk h) a b ∧ h q + c = tk := by
            rcases m3 with m3 | ⟨q, hq, m3⟩
            · obtain ⟨q, hq⟩ := List.exists_mem_of_ne_nil _ hne
              have q1 := m2 q hq
              have q2 := (w3 q hq).2.2
              exact ⟨q, hq, by omega⟩
            · have q2 := (w3 q hq).2.2
              exact ⟨q, hq, by omega⟩
          have hq3 := w3 q hq
          rw [nI_add, nI_1]
          refine ih (r + 1) (s + c) (rmn N tk h) (addW h (way N (opl sh tk h) a b) c) g2 (by omega) (fun k c7 c8 c9 c10 => ?_) (fun p hp => ?_) (fun p => ?_) ?_ ?_ ?_
          · rw [hf2 k c8, hf1 k c7 c9 c10, hfr k c7 c8 c9 c10]
          · rw [h82, hf1 8 (by decide) (by decide) (by decide), h8 p hp]
            unfold addW
            by_cases hm : p ∈ way N (opl sh tk h) a b
            · rw [if_pos hm, if_pos hm, nI_add]
            · rw [if_neg hm, if_neg hm, Nat.add_zero]
          · unfold addW
            by_cases hm : p ∈ way N (opl sh tk h) a b
            · rw [if_pos hm]; exact hcp p hm
            · rw [if_neg hm, Nat.add_zero]; exact hht p
          · have := sm_drop (f := fun p => b1 (decide (h p < tk))) (f' := fun p => b1 (decide (addW h (way N (opl sh tk h) a b) c p < tk))) (c := 1) N.1 (fun p _ => by
              show b1 (decide (addW h (way N (opl sh tk h) a b) c p < tk)) ≤ b1 (decide (h p < tk))
              by_cases hlt : h p < tk
              · rw [decide_eq_true hlt]; exact b1_le _
              · rw [decide_eq_false hlt, decide_eq_false (by unfold addW; omega)]
                exact Nat.le_refl _) q hq3.1 (by
              show b1 (decide (addW h (way N (opl sh tk h) a b) c q < tk)) + 1 ≤ b1 (decide (h q < tk))
              rw [decide_eq_true hq3.2.2, decide_eq_false (by unfold addW; rw [if_pos hq]; omega)]
              decide)
            unfold nop at hop ⊢
            omega
          · have := rmn_add (N := N) (tk := tk) (h := h) hne (fun p hp => (w3 p hp).1) hcp
            omega
          · have hb1 := dct_batch (k := rmn N tk h) hne hcp c (Nat.le_refl _)
            rw [show rmn N tk h + c - c = rmn N tk h by omega] at hb1
            rw [hA, dct_fuel hN.1 ha hb k (rmn N tk h + c) h hrm (by omega), hb1]
            omega
  have hn16 : nop N tk h0 ≤ N.1 := sm_le N.1 (fun w => b1_le _)
  refine Vw_drawAll (loop 16 0 0 64 h0 g0 (by omega) (fun _ _ _ _ _ => rfl) h80 hht0 (by omega) (r64 h0) (by omega))
/-! the reference -/
theorem Sm_keeps {g0 : Sg} {Q : Sg → Prop} (hq : ∀ g', (∀ k, k ≠ 47 → g' k = g0 k) → (∀ p, p < 16 → g' 47 p = g0 44 p) → Q g') : Cm_keeps g0 Q := by
  have loop : ∀ (d p : Nat) (g : Sg), p + d = 16 → (∀ k, k ≠ 47 → g k = g0 k) → (∀ q, q < p → g 47 q = g0 44 q) → Hm_keeps_2 (nI p) g Q := by
    intro d
    induction d with
    | zero =>
      intro p g hp hfr h
      have hp16 : p = 16 := by omega
      rw [hp16] at h ⊢
      exact Vm_keeps_2 (brT (by decide) (hq g hfr h))
    | succ d ih =>
      intro p g hp hfr h
      have i16 : vp_in (nI p) 16 := vp_in_nI (by omega) (by omega)
      refine Vm_keeps_2 (brF (fun hx => ?_) ⟨i16, i16, ?_⟩)
      · have : 16 ≤ p := (nI_leI (a := 16) (b := p) (by omega) (by omega)).mp hx
        omega
      · rw [nI_clamp (show p < 2 ^ 31 by omega), nI_1, hfr 44 (by decide)]
        refine ih (p + 1) _ (by omega) (fun k hk => by funext j; rw [sg_k hk, hfr k hk]) (fun q hq' => ?_)
        by_cases hqp : q = p
        · rw [hqp, sg_s]
        · rw [sg_j hqp]; exact h q (by omega)
  exact Vm_keeps (loop 16 0 g0 (by omega) (fun _ _ => rfl) (fun q h => absurd h (by omega)))
theorem Sm_putsBack {g0 : Sg} {Q : Sg → Prop} (hq : ∀ g', (∀ k, k ≠ 44 → g' k = g0 k) → (∀ p, p < 16 → g' 44 p = g0 47 p) → Q g') : Cm_putsBack g0 Q := by
  have loop : ∀ (d p : Nat) (g : Sg), p + d = 16 → (∀ k, k ≠ 44 → g k = g0 k) → (∀ q, q < p → g 44 q = g0 47 q) → Hm_putsBack_2 (nI p) g Q := by
    intro d
    induction d with
    | zero =>
      intro p g hp hfr h
      have hp16 : p = 16 := by omega
      rw [hp16] at h ⊢
      exact Vm_putsBack_2 (brT (by decide) (hq g hfr h))
    | succ d ih =>
      intro p g hp hfr h
      have i16 : vp_in (nI p) 16 := vp_in_nI (by omega) (by omega)
      refine Vm_putsBack_2 (brF (fun hx => ?_) ⟨i16, i16, ?_⟩)
      · have : 16 ≤ p := (nI_leI (a := 16) (b := p) (by omega) (by omega)).mp hx
        omega
      · rw [nI_clamp (show p < 2 ^ 31 by omega), nI_1, hfr 47 (by decide)]
        refine ih (p + 1) _ (by omega) (fun k hk => by funext j; rw [sg_k hk, hfr k hk]) (fun q hq' => ?_)
        by_cases hqp : q = p
        · rw [hqp, sg_s]
        · rw [sg_j hqp]; exact h q (by omega)
  exact Vm_putsBack (loop 16 0 g0 (by omega) (fun _ _ => rfl) (fun q h => absurd h (by omega)))
/-- draws, over a load h -/
theorem Sm_drawsL {N : Net} {g : Sg} {sh : Int32} {tk a b : Nat} {h : Nat → Nat} {Q : Int32 → Sg → Prop} (hN : NM N g) (h9 : g 41 0 = sh) (h10 : g 41 1 = nI tk) (htk : tk ≤ 4) (h8 : ∀ p, p < 16 → g 44 p = nI (h p)) (hht : ∀ p, h p ≤ tk) (ha : a < 8) (hb : b < 8) (hab : a ≠ b)
    (hq : ∀ g', (∀ c, c ≠ 44 → c ≠ 45 → c ≠ 46 → g' c = g c) → (∀ p, p < 16 → g' 44 p = nI (addW h (way N (opl sh tk h) a b) 1 p)) → (∀ p, addW h (way N (opl sh tk h) a b) 1 p ≤ tk) → Q (wb (way N (opl sh tk h) a b)) g') : Cm_draws (nI a) (nI b) g Q := by
  have h16 := hN.1.1
  have hO : ∀ p, p < N.1 → OM g p = opl sh tk h p := fun p hp => OM_opl h9 h10 htk h8 hht (by omega)
  have hway := way_cg hN.1 hO ha hb
  obtain ⟨w1, w2, w3⟩ := way_opl hN.1 (sh := sh) (tk := tk) (h := h) ha hb
  refine Sm_draws hN ha hb hab h8 (fun p => by have := hht p; omega) (fun g' hfr h8' => ?_)
  rw [hway] at h8' ⊢
  refine hq g' hfr (fun p hp => ?_) (fun p => ?_)
  · rw [h8' p hp]
    unfold addW b1
    by_cases hm : p ∈ way N (opl sh tk h) a b
    · rw [if_pos hm, decide_eq_true hm, if_pos rfl]
    · rw [if_neg hm, decide_eq_false hm, if_neg (by decide)]
  · unfold addW
    by_cases hm : p ∈ way N (opl sh tk h) a b
    · rw [if_pos hm]; have := (w3 p hm).2.2; omega
    · rw [if_neg hm, Nat.add_zero]; exact hht p
theorem wbl_z {N : Net} (hN : netOK N) {sh : Int32} {tk a b : Nat} {h : Nat → Nat} (ha : a < 8) (hb : b < 8) : wb (way N (opl sh tk h) a b) = 0 ↔ way N (opl sh tk h) a b = [] := by
  have h16 := hN.1
  exact wb_z (fun p hp => by have := ((way_opl hN ha hb).2.2 p hp).1; omega)
theorem Sm_drawnOf {N : Net} {g0 : Sg} {sh : Int32} {tk a b : Nat} {h0 : Nat → Nat} {Q : Int32 → Sg → Prop} (hN : NM N g0) (h9 : g0 41 0 = sh) (h10 : g0 41 1 = nI tk) (htk : tk ≤ 4) (h80 : ∀ p, p < 16 → g0 44 p = nI (h0 p)) (hht0 : ∀ p, h0 p ≤ tk) (ha : a < 8) (hb : b < 8) (hab : a ≠ b)
    (hQ : ∀ g', (∀ k, k ≠ 44 → k ≠ 45 → k ≠ 46 → k ≠ 47 → g' k = g0 k) → (∀ p, p < 16 → g' 44 p = g0 44 p) → Q (nI (dct N sh tk a b 64 h0)) g') : Cm_drawnOf (nI a) (nI b) g0 Q := by
  have h16 := hN.1.1
  have r64 : ∀ h : Nat → Nat, rmn N tk h ≤ 64 := fun h => by
    have h1 := sm_ub (f := fun p => tk - h p) (c := 4) (fun p => by show tk - h p ≤ 4; omega) N.1
    have h2 : N.1 * 4 ≤ 64 := by omega
    exact Nat.le_trans h1 h2
  have loop : ∀ (k s : Nat) (h : Nat → Nat) (g : Sg), rmn N tk h ≤ k → (∀ k, k ≠ 44 → k ≠ 45 → k ≠ 46 → k ≠ 47 → g k = g0 k) → (∀ p, p < 16 → g 47 p = g0 44 p) → (∀ p, p < 16 → g 44 p = nI (h p)) → (∀ p, h p ≤ tk) → dct N sh tk a b 64 h0 = s + dct N sh tk a b k h → Hm_drawnOf_6 (nI a) (nI b) (nI s) g Q := by
    have fin : ∀ (s k : Nat) (h : Nat → Nat) (g1 : Sg), (∀ k, k ≠ 44 → k ≠ 45 → k ≠ 46 → k ≠ 47 → g1 k = g0 k) → (∀ p, p < 16 → g1 47 p = g0 44 p) → way N (opl sh tk h) a b = [] → dct N sh tk a b 64 h0 = s + dct N sh tk a b k h → Cm_putsBack g1 (fun g3 => Q (nI s) g3) := by
      intro s k h g1 hfr h47 hem hA
      refine Sm_putsBack (fun g2 hf2 h44 => ?_)
      have hz : dct N sh tk a b k h = 0 := by
        cases k with
        | zero => rfl
        | succ k =>
          show (if _ then _ else _) = 0
          rw [if_pos hem]
      have hq := hQ g2 (fun k c1 c2 c3 c4 => (hf2 k c1).trans (hfr k c1 c2 c3 c4)) (fun p hp => (h44 p hp).trans (h47 p hp))
      rw [hA, hz] at hq
      exact hq
    intro k
    induction k with
    | zero =>
      intro s h g hrm hfr h47 h8 hht hA
      have hNg : NM N g := hN.of (by rw [hfr 34 (by decide) (by decide) (by decide) (by decide)]) (hfr 40 (by decide) (by decide) (by decide) (by decide))
      have e41 := hfr 41 (by decide) (by decide) (by decide) (by decide)
      refine Vm_drawnOf_6 (Sm_drawsL (sh := sh) (h := h) hNg (by rw [e41]; exact h9) (by rw [e41]; exact h10) htk h8 hht ha hb hab (fun g1 hf1 h81 hht1 => ?_))
      have hfr1 : ∀ k, k ≠ 44 → k ≠ 45 → k ≠ 46 → k ≠ 47 → g1 k = g0 k := fun k c1 c2 c3 c4 => (hf1 k c1 c2 c3).trans (hfr k c1 c2 c3 c4)
      have h471 : ∀ p, p < 16 → g1 47 p = g0 44 p := fun p hp => by rw [hf1 47 (by decide) (by decide) (by decide)]; exact h47 p hp
      rw [wbl_z hN.1 ha hb]
      refine ⟨fun hem => fin s 0 h g1 hfr1 h471 hem hA, fun hne => ?_⟩
      have w3 := (way_opl hN.1 (sh := sh) (tk := tk) (h := h) ha hb).2.2
      have := rmn_add (N := N) (tk := tk) (h := h) (c := 1) hne (fun p hp => (w3 p hp).1) (fun p hp => by have := (w3 p hp).2.2; omega)
      omega
    | succ k ih =>
      intro s h g hrm hfr h47 h8 hht hA
      have hNg : NM N g := hN.of (by rw [hfr 34 (by decide) (by decide) (by decide) (by decide)]) (hfr 40 (by decide) (by decide) (by decide) (by decide))
      have e41 := hfr 41 (by decide) (by decide) (by decide) (by decide)
      refine Vm_drawnOf_6 (Sm_drawsL (sh := sh) (h := h) hNg (by rw [e41]; exact h9) (by rw [e41]; exact h10) htk h8 hht ha hb hab (fun g1 hf1 h81 hht1 => ?_))
      have hfr1 : ∀ k, k ≠ 44 → k ≠ 45 → k ≠ 46 → k ≠ 47 → g1 k = g0 k := fun k c1 c2 c3 c4 => (hf1 k c1 c2 c3).trans (hfr k c1 c2 c3 c4)
      have h471 : ∀ p, p < 16 → g1 47 p = g0 44 p := fun p hp => by rw [hf1 47 (by decide) (by decide) (by decide)]; exact h47 p hp
      rw [wbl_z hN.1 ha hb]
      refine ⟨fun hem => fin s (k + 1) h g1 hfr1 h471 hem hA, fun hne => ?_⟩
      have w3 := (way_opl hN.1 (sh := sh) (tk := tk) (h := h) ha hb).2.2
      have hrd := rmn_add (N := N) (tk := tk) (h := h) (c := 1) hne (fun p hp => (w3 p hp).1) (fun p hp => by have := (w3 p hp).2.2; omega)
      rw [nI_1]
      refine ih (s + 1) (addW h (way N (opl sh tk h) a b) 1) g1 (by omega) hfr1 h471 h81 hht1 ?_
      have e : dct N sh tk a b (k + 1) h = (if way N (opl sh tk h) a b = [] then 0 else 1 + dct N sh tk a b k (addW h (way N (opl sh tk h) a b) 1)) := rfl
      rw [hA, e, if_neg hne]
      omega
  refine Vm_drawnOf (Sm_keeps (fun g1 hf1 h47 => ?_))
  exact loop 64 0 h0 g1 (r64 h0) (fun k _ _ _ h47' => hf1 k h47') h47 (fun p hp => by rw [hf1 44 (by decide)]; exact h80 p hp) hht0 (by omega)
