/-! the steps, played -/
theorem IsD.cg {N : Net} {O O' : Nat → Bool} (h : ∀ p, p < N.1 → O p = O' p) {t F : Nat} {d : Nat → Nat} (hd : IsD N O t F d) : IsD N O' t F d := by
  refine ⟨hd.1, hd.2.1, fun p hp ho => hd.2.2.1 p hp (by rw [h p hp]; exact ho), fun v hv h1 h2 => ?_⟩
  obtain ⟨p, b1, b2, b3, b4⟩ := hd.2.2.2 v hv h1 h2
  exact ⟨p, b1, by rw [← h p b1]; exact b2, b3, b4⟩
theorem nxt_none {N : Net} {O : Nat → Bool} {d : Nat → Nat} {e : Nat} (h : ∀ p, p < N.1 → ¬ onw N O d e p) : nxt N O d e = none := by
  classical
  unfold nxt
  rw [List.find?_eq_none]
  intro p hp
  have := h p (List.mem_range.mp hp)
  simpa using this
theorem nxt_cg {N : Net} {O O' : Nat → Bool} (h : ∀ p, p < N.1 → O p = O' p) (d : Nat → Nat) (e : Nat) : nxt N O d e = nxt N O' d e := by
  have key : ∀ p, p < N.1 → (onw N O d e p ↔ onw N O' d e p) := fun p hp => by unfold onw; rw [h p hp]
  by_cases hx : ∃ p, p < N.1 ∧ onw N O d e p
  · obtain ⟨p, h1, h2, h3, h4⟩ := nxt_ex hx
    rw [h4, nxt_some h1 ((key p h1).mp h2) (fun q hq ho => h3 q hq ((key q (by omega)).mpr ho))]
  · rw [nxt_none (fun p hp ho => hx ⟨p, hp, ho⟩), nxt_none (fun p hp ho => hx ⟨p, hp, (key p hp).mpr ho⟩)]
theorem wrow_cg {N : Net} {O O' : Nat → Bool} (h : ∀ p, p < N.1 → O p = O' p) (d : Nat → Nat) (t : Nat) : ∀ n e, wrow N O d t n e = wrow N O' d t n e := by
  intro n
  induction n with
  | zero => intro e; rfl
  | succ n ih =>
    intro e
    simp only [wrow, nxt_cg h d e]
    have : (fun p => p :: wrow N O d t n (opp N p e)) = (fun p => p :: wrow N O' d t n (opp N p e)) := by funext p; rw [ih]
    rw [this]
theorem way_cg {N : Net} (hN : netOK N) {O O' : Nat → Bool} (h : ∀ p, p < N.1 → O p = O' p) {a b : Nat} (ha : a < 8) (hb : b < 8) : way N O a b = way N O' a b := by
  have hd := dst_is hN O hb
  rw [way_of hN ha hb (hd.cg h) (by omega)]
  unfold way
  rw [wrow_cg h]
theorem dst_cg {N : Net} (hN : netOK N) {O O' : Nat → Bool} (h : ∀ p, p < N.1 → O p = O' p) {a b : Nat} (ha : a < 8) (hb : b < 8) (hl : dst N O b a < 1000) : dst N O b a = dst N O' b a :=
  ((((dst_is hN O hb).cg h).eq hN (dst_is hN O' hb) (by omega) (by omega) ha).2 hl)
/-- a pipe that is neither shut nor full -/
def opn (sh : Int32) (tk : Nat) (P : Nat → Int32) (p : Nat) : Bool := !bt sh p && decide (ld P p < tk)
def pullable (P : Nat → Int32) (w : Nat) : Prop := P w ≠ 0 ∧ ∀ k, w < k → k < 16 → (P k &&& P w) = 0
/-- one step: -1 and a wire (a pull), or two ends (a let-in) -/
noncomputable def stp (N : Net) (sh : Int32) (tk : Nat) (P : Nat → Int32) (k : Nat) (f t : Int32) : Nat → Int32 := by
  classical exact (if f = -1 then (if pullable P t.toNatClampNeg then upd P t.toNatClampNeg 0 else P) else upd P k (wb (way N (opn sh tk P) f.toNatClampNeg t.toNatClampNeg)))
/-- pipes of each wire behind k steps; 0: it does not lie -/
noncomputable def pw (N : Net) (sh : Int32) (tk : Nat) (f t : Nat → Int32) : Nat → Nat → Int32
  | 0 => fun _ => 0
  | k + 1 => stp N sh tk (pw N sh tk f t k) k (f k) (t k)
/-- a step is a pull of a wire, or a let-in from an end to another one -/
def stOK (f t : Int32) : Prop := (f = -1 ∧ ∃ w : Nat, w < 16 ∧ t = nI w) ∨ ∃ a b : Nat, a < 8 ∧ b < 8 ∧ a ≠ b ∧ f = nI a ∧ t = nI b
theorem stp_pull {N : Net} {sh : Int32} {tk k w : Nat} {P : Nat → Int32} (hw : w < 16) : (pullable P w → stp N sh tk P k (-1) (nI w) = upd P w 0) ∧ (¬ pullable P w → stp N sh tk P k (-1) (nI w) = P) := by
  classical
  unfold stp
  rw [nI_clamp (show w < 2 ^ 31 by omega)]
  constructor <;> intro h <;> simp [h]
theorem stp_let {N : Net} {sh : Int32} {tk k a b : Nat} {P : Nat → Int32} (ha : a < 8) (hb : b < 8) : stp N sh tk P k (nI a) (nI b) = upd P k (wb (way N (opn sh tk P) a b)) := by
  classical
  unfold stp
  rw [nI_clamp (show a < 2 ^ 31 by omega), nI_clamp (show b < 2 ^ 31 by omega), if_neg (nI_m1 (by omega))]
/-- what holds of the wires behind k steps -/
def pwOK (N : Net) (tk k : Nat) (P : Nat → Int32) : Prop := (∀ w, k ≤ w → P w = 0) ∧ (∀ w i, bt (P w) i = true → i < N.1) ∧ (∀ p, ld P p ≤ tk)
theorem ld_upd {P : Nat → Int32} {k : Nat} (hk : k < 16) (x : Int32) (p : Nat) : ld (upd P k x) p + b1 (bt (P k) p) = ld P p + b1 (bt x p) := by
  have key : ∀ n : Nat, sm n (fun w => b1 (bt (upd P k x w) p)) + (if k < n then b1 (bt (P k) p) else 0) = sm n (fun w => b1 (bt (P w) p)) + (if k < n then b1 (bt x p) else 0) := by
    intro n
    induction n with
    | zero => rfl
    | succ n ih =>
      show sm n _ + b1 (bt (upd P k x n) p) + _ = sm n _ + b1 (bt (P n) p) + _
      by_cases hn : n = k
      · subst hn
        rw [if_neg (Nat.lt_irrefl n)] at ih
        rw [if_neg (Nat.lt_irrefl n)] at ih
        rw [if_pos (Nat.lt_succ_self n), if_pos (Nat.lt_succ_self n)]
        have : upd P n x n = x := by simp [upd]
        rw [this]
        omega
      · have : upd P k x n = P n := by simp [upd, hn]
        rw [this]
        by_cases hlt : k < n
        · rw [if_pos hlt, if_pos hlt] at ih
          rw [if_pos (by omega), if_pos (by omega)]
          omega
        · rw [if_neg hlt, if_neg hlt] at ih
          rw [if_neg (by omega), if_neg (by omega)]
          omega
  have h := key 16
  rw [if_pos hk, if_pos hk] at h
  exact h
theorem pwOK.pull {N : Net} {tk k w : Nat} {P : Nat → Int32} (h : pwOK N tk k P) (hw : w < 16) : pwOK N tk (k + 1) (upd P w 0) := by
  refine ⟨fun v hv => ?_, fun v i hb => ?_, fun p => ?_⟩
  · unfold upd; split
    · rfl
    · exact h.1 v (by omega)
  · unfold upd at hb
    split at hb
    · rw [b_0] at hb; cases hb
    · exact h.2.1 v i hb
  · have h1 := ld_upd (P := P) hw 0 p
    have h2 := h.2.2 p
    have h3 : b1 (bt 0 p) = 0 := by rw [b_0]; rfl
    omega
theorem pwOK.let {N : Net} (hN : netOK N) {sh : Int32} {tk k a b : Nat} {P : Nat → Int32} (h : pwOK N tk k P) (hk : k < 16) (ha : a < 8) (hb : b < 8) : pwOK N tk (k + 1) (upd P k (wb (way N (opn sh tk P) a b))) := by
  obtain ⟨w1, w2, w3, -⟩ := way_ok hN (opn sh tk P) ha hb
  have h16 := hN.1
  have hm : ∀ p ∈ way N (opn sh tk P) a b, p < 32 := fun p hp => by have := (w3 p hp).1; omega
  refine ⟨fun v hv => ?_, fun v i hbi => ?_, fun p => ?_⟩
  · unfold upd; rw [if_neg (by omega)]; exact h.1 v (by omega)
  · unfold upd at hbi
    split at hbi
    · rw [wb_bt _ hm] at hbi
      exact (w3 i (of_decide_eq_true hbi)).1
    · exact h.2.1 v i hbi
  · have h1 := ld_upd (P := P) hk (wb (way N (opn sh tk P) a b)) p
    have h2 := h.2.2 p
    have h3 : b1 (bt (P k) p) = 0 := by rw [h.1 k (Nat.le_refl _), b_0]; rfl
    rw [wb_bt _ hm] at h1
    by_cases hpm : p ∈ way N (opn sh tk P) a b
    · have h4 := (w3 p hpm).2
      unfold opn at h4
      simp at h4
      have h5 : b1 (decide (p ∈ way N (opn sh tk P) a b)) = 1 := by simp [hpm, b1]
      omega
    · have h5 : b1 (decide (p ∈ way N (opn sh tk P) a b)) = 0 := by simp [hpm, b1]
      omega
theorem pw_ok {N : Net} (hN : netOK N) {sh : Int32} {tk : Nat} {f t : Nat → Int32} {m : Nat} (hm : m ≤ 16) (hs : ∀ k, k < m → stOK (f k) (t k)) : ∀ k, k ≤ m → pwOK N tk k (pw N sh tk f t k) := by
  intro k
  induction k with
  | zero =>
    intro _
    refine ⟨fun _ _ => rfl, fun w i hb => ?_, fun p => ?_⟩
    · have hz : bt 0 i = true := hb
      rw [b_0] at hz; cases hz
    · have : ld (pw N sh tk f t 0) p = 0 := by
        have hz : ∀ n : Nat, sm n (fun w => b1 (bt (pw N sh tk f t 0 w) p)) = 0 := by
          intro n
          induction n with
          | zero => rfl
          | succ n ih =>
            show sm n _ + b1 (bt 0 p) = 0
            rw [ih, b_0]; rfl
        exact hz 16
      omega
  | succ k ih =>
    intro hk
    have h1 := ih (by omega)
    show pwOK N tk (k + 1) (stp N sh tk (pw N sh tk f t k) k (f k) (t k))
    rcases hs k (by omega) with ⟨e1, w, hw, e2⟩ | ⟨a, b, ha, hb, hab, e1, e2⟩
    · rw [e1, e2]
      by_cases hp : pullable (pw N sh tk f t k) w
      · rw [(stp_pull hw).1 hp]; exact h1.pull hw
      · rw [(stp_pull hw).2 hp]; exact ⟨fun v hv => h1.1 v (by omega), h1.2⟩
    · rw [e1, e2, stp_let ha hb]
      exact h1.let hN (by omega) ha hb
theorem pw_cg {N : Net} {sh : Int32} {tk : Nat} {f t f' t' : Nat → Int32} : ∀ k, (∀ j, j < k → f j = f' j ∧ t j = t' j) → pw N sh tk f t k = pw N sh tk f' t' k := by
  intro k
  induction k with
  | zero => intro _; rfl
  | succ k ih =>
    intro h
    show stp _ _ _ (pw N sh tk f t k) k (f k) (t k) = stp _ _ _ (pw N sh tk f' t' k) k (f' k) (t' k)
    rw [ih (fun j hj => h j (by omega)), (h k (by omega)).1, (h k (by omega)).2]
/-- a set of numbers below n as bits -/
def bsf : Nat → (Nat → Bool) → Int32
  | 0, _ => 0
  | n + 1, f => bsf n f ||| (if f n = true then sb (nI n) else 0)
theorem bsf_bt (f : Nat → Bool) : ∀ (n i : Nat), n ≤ 32 → bt (bsf n f) i = (decide (i < n) && f i) := by
  intro n
  induction n with
  | zero => intro i _; show bt 0 i = _; rw [b_0]; simp
  | succ n ih =>
    intro i hn
    show bt (bsf n f ||| (if f n = true then sb (nI n) else 0)) i = _
    rw [b_or, ih i (by omega)]
    cases hf : f n with
    | true =>
      rw [if_pos rfl, b_sb (by omega)]
      by_cases h1 : i = n
      · subst h1; simp [hf]
      · have : (i < n + 1) = (i < n) := by apply propext; omega
        simp [h1, this]
    | false =>
      rw [if_neg (by decide), b_0]
      by_cases h1 : i = n
      · subst h1; simp [hf]
      · have : (i < n + 1) = (i < n) := by apply propext; omega
        simp [this]
/-- the wires that lie, as bits -/
def ly (P : Nat → Int32) : Int32 := bsf 16 (fun w => !decide (P w = 0))
theorem ly_bt (P : Nat → Int32) {w : Nat} (hw : w < 16) : bt (ly P) w = true ↔ P w ≠ 0 := by
  unfold ly
  rw [bsf_bt _ 16 w (by omega)]
  simp [hw]
theorem ly_hi (P : Nat → Int32) {w : Nat} (hw : 16 ≤ w) : bt (ly P) w = false := by
  unfold ly
  rw [bsf_bt _ 16 w (by omega)]
  simp; omega
theorem ly_ext {x : Int32} {P : Nat → Int32} (h1 : ∀ w, w < 16 → (bt x w = true ↔ P w ≠ 0)) (h2 : ∀ w, 16 ≤ w → bt x w = false) : x = ly P := by
  refine b_ext (fun i _ => ?_)
  rcases Nat.lt_or_ge i 16 with hi | hi
  · have a1 := h1 i hi
    have a2 := ly_bt P hi
    cases hx : bt x i <;> cases hy : bt (ly P) i <;> simp_all
  · rw [h2 i hi, ly_hi P hi]
