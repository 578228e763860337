/-! bits, sums, the load of the pipes -/
theorem b_ext {x y : Int32} (h : ∀ i, i < 32 → bt x i = bt y i) : x = y := Int32.toBitVec_inj.mp (BitVec.eq_of_getLsbD_eq (fun i hi => h i hi))
theorem b_or (x y : Int32) (i : Nat) : bt (x ||| y) i = (bt x i || bt y i) := by unfold bt; rw [Int32.toBitVec_or, BitVec.getLsbD_or]
theorem b_and (x y : Int32) (i : Nat) : bt (x &&& y) i = (bt x i && bt y i) := by unfold bt; rw [Int32.toBitVec_and, BitVec.getLsbD_and]
theorem b_xor (x y : Int32) (i : Nat) : bt (x ^^^ y) i = (bt x i ^^ bt y i) := by unfold bt; rw [Int32.toBitVec_xor, BitVec.getLsbD_xor]
theorem b_big {x : Int32} {i : Nat} (h : 32 ≤ i) : bt x i = false := BitVec.getLsbD_of_ge _ _ h
theorem b_m1 : ∀ i, i < 32 → bt (-1) i = true := by decide +kernel
theorem b_0 (i : Nat) : bt 0 i = false := BitVec.getLsbD_zero
theorem b_sb {k : Nat} (hk : k < 32) (i : Nat) : bt (sb (nI k)) i = decide (i = k) := by
  unfold bt
  rw [sb_bv, pk_tn (by omega), Nat.mod_eq_of_lt hk, BitVec.getLsbD_twoPow]
  by_cases hx : k = i
  · simp [hx]; omega
  · simp [hx, Ne.symm hx]
theorem b_z {x : Int32} : x = 0 ↔ ∀ i, i < 32 → bt x i = false := by
  constructor
  · intro hx i _; rw [hx]; exact b_0 i
  · intro hx; exact b_ext (fun i hi => by rw [hx i hi, b_0])
theorem b_az {x y : Int32} : (x &&& y) = 0 ↔ ∀ i, i < 32 → ¬ (bt x i = true ∧ bt y i = true) := by
  rw [b_z]
  constructor
  · intro hx i hi hy
    have := hx i hi
    rw [b_and, hy.1, hy.2] at this
    cases this
  · intro hx i hi
    rw [b_and]
    cases hbx : bt x i <;> cases hby : bt y i <;> first | rfl | exact absurd ⟨hbx, hby⟩ (hx i hi)
theorem and1 (y : Int32) : (y &&& 1) = (if bt y 0 = true then 1 else 0) := by
  apply b_ext
  intro i hi
  rw [b_and]
  have h1 : bt 1 i = decide (i = 0) := b_sb (k := 0) (by omega) i
  by_cases h0 : i = 0
  · subst h0
    cases hb : bt y 0 <;> simp [h1, b_0]
  · rw [h1]
    cases hb : bt y 0 <;> simp [h0, b_0, h1]
theorem sr1 (x : Int32) {p : Nat} (hp : p < 32) : ((x >>> (nI p &&& 31)) &&& 1) = (if bt x p = true then 1 else 0) := by
  have hh := is_iff x (nI p)
  rw [tbb_n x hp] at hh
  rw [and1] at hh ⊢
  by_cases hb : bt x p = true
  · rw [if_pos hb]; exact hh.mpr hb
  · rw [if_neg hb]
    split
    · rename_i hq; rw [if_pos hq] at hh; exact absurd (hh.mp rfl) hb
    · rfl
def sm : Nat → (Nat → Nat) → Nat
  | 0, _ => 0
  | n + 1, f => sm n f + f n
def b1 (b : Bool) : Nat := if b = true then 1 else 0
theorem b1_le (b : Bool) : b1 b ≤ 1 := by cases b <;> decide
theorem sm_le {f : Nat → Nat} (n : Nat) (h : ∀ w, f w ≤ 1) : sm n f ≤ n := by
  induction n with
  | zero => exact Nat.le_refl _
  | succ n ih => have := h n; show sm n f + f n ≤ n + 1; omega
theorem sm_congr {f h : Nat → Nat} : ∀ n : Nat, (∀ w, w < n → f w = h w) → sm n f = sm n h := by
  intro n
  induction n with
  | zero => intro _; rfl
  | succ n ih =>
    intro hw
    show sm n f + f n = sm n h + h n
    rw [ih (fun w hlt => hw w (by omega)), hw n (by omega)]
/-- how many wires a pipe has -/
def ld (P : Nat → Int32) (p : Nat) : Nat := sm 16 (fun w => b1 (bt (P w) p))
theorem ld_le (P : Nat → Int32) (p : Nat) : ld P p ≤ 16 := sm_le 16 (fun w => b1_le _)
theorem ld_congr {P R : Nat → Int32} {p : Nat} (h : ∀ w, w < 16 → P w = R w) : ld P p = ld R p := sm_congr 16 (fun w hw => by rw [h w hw])
/-- the class: pipes of a wire among some wires -/
def PC (g : Sg) (ws : Int32) (w : Nat) : Int32 := if bt ws w = true then g 15 w else 0
theorem fl_in {g0 : Sg} {ws : Int32} {w : Nat} {Q : Sg → Prop} (hw : w < 16) (hk : ∀ g', (∀ k, k ≠ 8 → g' k = g0 k) → (∀ q, q < 16 → g' 8 q = nI (sm (w + 1) (fun v => b1 (bt (PC g0 ws v) q)))) → Hb_fillLoad_13 ws (nI w + 1) g' Q) :
    ∀ (m p : Nat) (g : Sg), p + m = 16 → (∀ k, k ≠ 8 → g k = g0 k) → (∀ q, q < 16 → g 8 q = nI (sm w (fun v => b1 (bt (PC g0 ws v) q)) + if q < p then b1 (bt (PC g0 ws w) q) else 0)) → Hb_fillLoad_29 ws (nI w) (PC g0 ws w) (nI p) g Q := by
  intro m
  induction m with
  | zero =>
    intro p g hpm hfr hL
    have hp : p = 16 := by omega
    have hq : Hb_fillLoad_13 ws (nI w + 1) g Q := hk g hfr (fun q hq => by rw [hL q hq, if_pos (by omega)]; rfl)
    rw [hp]
    exact Vb_fillLoad_29 ⟨fun _ => hq, fun _ => brT (by decide) hq⟩
  | succ m ih =>
    intro p g hpm hfr hL
    refine Vb_fillLoad_29 ⟨fun h0 => ?_, fun _ => brF (fun hx => ?_) ?_⟩
    · refine hk g hfr (fun q hq => ?_)
      rw [hL q hq]
      have hz : b1 (bt (PC g0 ws w) q) = 0 := by rw [h0, b_0]; rfl
      show _ = nI (sm w _ + b1 (bt (PC g0 ws w) q))
      rw [hz]
      split <;> rfl
    · have : 16 ≤ p := (nI_leI (a := 16) (b := p) (by omega) (by omega)).mp hx
      omega
    · have i16 : vp_in (nI p) 16 := vp_in_nI (by omega) (by omega)
      refine ⟨i16, i16, ?_⟩
      rw [nI_clamp (show p < 2 ^ 31 by omega), sr1 _ (by omega), nI_1]
      refine ih (p + 1) _ (by omega) (fun k hk8 => by funext j; rw [sg_k hk8, hfr k hk8]) (fun q hq => ?_)
      by_cases hqp : q = p
      · rw [hqp, sg_s, hL p (by omega), if_neg (Nat.lt_irrefl p), if_pos (Nat.lt_succ_self p), Nat.add_zero]
        cases hb : bt (PC g0 ws w) p
        · rw [if_neg (by decide)]
          exact nI_add _ 0
        · rw [if_pos rfl]
          exact nI_1 _
      · rw [sg_j hqp, hL q hq]
        by_cases hlt : q < p
        · rw [if_pos hlt, if_pos (by omega)]
        · rw [if_neg hlt, if_neg (by omega)]
theorem fl_out {g0 : Sg} {ws : Int32} {Q : Sg → Prop} (hk : ∀ g', (∀ k, k ≠ 8 → g' k = g0 k) → (∀ q, q < 16 → g' 8 q = nI (ld (PC g0 ws) q)) → Q g') :
    ∀ (m w : Nat) (g : Sg), w + m = 16 → (∀ k, k ≠ 8 → g k = g0 k) → (∀ q, q < 16 → g 8 q = nI (sm w (fun v => b1 (bt (PC g0 ws v) q)))) → Hb_fillLoad_13 ws (nI w) g Q := by
  intro m
  induction m with
  | zero =>
    intro w g hwm hfr hL
    have hw : w = 16 := by omega
    rw [hw] at hL ⊢
    exact Vb_fillLoad_13 (brT (by decide) (hk g hfr hL))
  | succ m ih =>
    intro w g hwm hfr hL
    refine Vb_fillLoad_13 (brF (fun hx => ?_) ⟨vp_in_nI (by omega) (by omega), ?_⟩)
    · have : 16 ≤ w := (nI_leI (a := 16) (b := w) (by omega) (by omega)).mp hx
      omega
    · rw [nI_clamp (show w < 2 ^ 31 by omega), tbb_n _ (by omega)]
      have hPC : (if bt ws w = true then g 15 w else 0) = PC g0 ws w := by unfold PC; rw [hfr 15 (by decide)]
      rw [hPC]
      refine fl_in (by omega) (fun g' hfr' hL' => ?_) 16 0 g (by omega) hfr (fun q hq => by rw [hL q hq, if_neg (by omega)]; rfl)
      rw [nI_1]
      exact ih (w + 1) g' (by omega) hfr' hL'
theorem Sb_fillLoad {g : Sg} {ws : Int32} {Q : Sg → Prop} (hk : ∀ g', (∀ k, k ≠ 8 → g' k = g k) → (∀ q, q < 16 → g' 8 q = nI (ld (PC g ws) q)) → Q g') : Cb_fillLoad ws g Q := by
  refine Vb_fillLoad (Sk_fill (n := 16) rfl (by omega) ?_)
  have hfr : ∀ k, k ≠ 8 → sgF g 8 16 0 k = g k := fun k hk8 => by unfold sgF; exact sgC_k hk8
  have hPC : PC (sgF g 8 16 0) ws = PC g ws := by funext w; unfold PC; rw [hfr 15 (by decide)]
  refine fl_out (g0 := sgF g 8 16 0) (fun g' hfr' hL => hk g' (fun k hk8 => (hfr' k hk8).trans (hfr k hk8)) (by rw [hPC] at hL; exact hL)) 16 0 _ (by omega) (fun _ _ => rfl) (fun q hq => ?_)
  unfold sgF
  rw [sgC_s]
  simp [hq]
  rfl
/-! the row as bits -/
def wb (l : List Nat) : Int32 := l.foldl (fun x p => x ||| sb (nI p)) 0
theorem wb_bt (l : List Nat) (hl : ∀ p ∈ l, p < 32) (i : Nat) : bt (wb l) i = decide (i ∈ l) := by
  have key : ∀ (l : List Nat) (x : Int32), (∀ p ∈ l, p < 32) → bt (l.foldl (fun x p => x ||| sb (nI p)) x) i = (bt x i || decide (i ∈ l)) := by
    intro l
    induction l with
    | nil => intro x _; simp
    | cons p l ih =>
      intro x hp
      rw [List.foldl_cons, ih _ (fun q hq => hp q (List.mem_cons_of_mem _ hq)), b_or, b_sb (hp p List.mem_cons_self)]
      by_cases h1 : i = p <;> by_cases h2 : i ∈ l <;> simp [h1, h2]
  have := key l 0 hl
  rw [b_0] at this
  simpa [wb] using this
theorem wb_z {l : List Nat} (hl : ∀ p ∈ l, p < 32) : wb l = 0 ↔ l = [] := by
  constructor
  · intro hz
    cases l with
    | nil => rfl
    | cons p l =>
      have h1 := wb_bt (p :: l) hl p
      rw [hz, b_0] at h1
      simp at h1
  · intro hz; rw [hz]; rfl
theorem wb_snoc (l : List Nat) (p : Nat) : wb (l ++ [p]) = wb l ||| sb (nI p) := by unfold wb; rw [List.foldl_append]; rfl
theorem Sw_rowBits {g : Sg} {l : List Nat} {Q : Int32 → Sg → Prop} (hr : RowAt g l) (hl : l.length ≤ 8) (h : Q (wb l) g) : Cw_rowBits g Q := by
  have loop : ∀ (m i : Nat), i + m = l.length → Hw_rowBits_4 (wb (l.take i)) (nI i) g Q := by
    intro m
    induction m with
    | zero =>
      intro i him
      have hi : i = l.length := by omega
      refine Vw_rowBits_4 (brT ?_ ?_)
      · rw [hr.1, hi]; exact nI_le (Nat.le_refl _) (by omega)
      · rw [hi, List.take_length]; exact h
    | succ m ih =>
      intro i him
      refine Vw_rowBits_4 (brF ?_ ⟨vp_in_nI (by omega) (by omega), ?_⟩)
      · rw [hr.1]; exact nI_ge (by omega) (by omega)
      · rw [nI_clamp (show i < 2 ^ 31 by omega), hr.2 i (by omega), nI_1]
        have e1 : wb (l.take i) ||| sb (nI (l.getD i 0)) = wb (l.take (i + 1)) := by
          rw [← wb_snoc]
          congr 1
          rw [List.take_add_one]
          have : i < l.length := by omega
          simp [List.getD_eq_getElem?_getD, this]
        rw [e1]
        exact ih (i + 1) (by omega)
  exact Vw_rowBits (loop l.length 0 (by omega))
