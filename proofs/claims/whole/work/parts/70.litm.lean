/-! lit: joined ends, ways -/
/-- open pipes as edges -/
def oE (N : Net) (O : Nat → Bool) (k : Nat) (u v : Nat) : Prop := ∃ p, p < k ∧ O p = true ∧ u = nA N p ∧ v = nB N p
theorem way_rch {N : Net} (hN : netOK N) {O : Nat → Bool} {a b : Nat} (ha : a < 8) (hb : b < 8) (hab : a ≠ b) : way N O a b ≠ [] ↔ rch (oE N O N.1) a b := by
  have hD := dst_is hN O hb
  obtain ⟨-, -, -, w4, w5⟩ := way_ok hN O ha hb
  have h1 : way N O a b ≠ [] ↔ dst N O b a < 1000 := ⟨fun h => Classical.byContradiction (fun hn => h (w5 hn)), fun h => (w4 h).2 hab⟩
  rw [h1]
  constructor
  · intro hlt y hya hcl
    have key : ∀ (n v : Nat), v < 8 → dst N O b v ≤ n → dst N O b v < 1000 → y v → y b := by
      intro n
      induction n with
      | zero =>
        intro v hv hn hF hy
        by_cases hvb : v = b
        · rw [← hvb]; exact hy
        · obtain ⟨p, p1, p2, -, -, p5, -⟩ := onw_ex hN hD hv hF hvb
          have := p2.2.2
          have := (hN.2 p p1).2.2.2.1
          omega
      | succ n ih =>
        intro v hv hn hF hy
        by_cases hvb : v = b
        · rw [← hvb]; exact hy
        · obtain ⟨p, p1, p2, -, -, p5, p6, -⟩ := onw_ex hN hD hv hF hvb
          refine ih (opp N p v) p5 (by omega) (by omega) ?_
          have hE : oE N O N.1 (nA N p) (nB N p) := ⟨p, p1, p2.1, rfl, rfl⟩
          rcases p2.2.1 with ht | ht
          · rw [opp_A ht]; exact (hcl _ _ hE).mp (by rw [ht]; exact hy)
          · rw [opp_B hN p1 ht]; exact (hcl _ _ hE).mpr (by rw [ht]; exact hy)
    exact key _ a ha (Nat.le_refl _) hlt hya
  · intro hr
    refine Classical.byContradiction (fun hn => ?_)
    refine hr (fun v => ¬ dst N O b v < 1000) hn (fun u v hE => ?_) ?_
    · obtain ⟨p, p1, p2, rfl, rfl⟩ := hE
      have hs := hD.2.2.1 p p1 p2
      have hq := hN.2 p p1
      unfold stb at hs
      constructor
      · intro h1 h2
        have := hD.b63 hN (show nB N p < 8 by omega) h2
        omega
      · intro h1 h2
        have := hD.b63 hN (show nA N p < 8 by omega) h2
        omega
    · rw [hD.1]; omega
/-- base edges, and two let-ins that may be -/
def EE (E : Nat → Nat → Prop) (p1 : Prop) (a : Nat) (p2 : Prop) (b : Nat) (u v : Nat) : Prop := E u v ∨ (p1 ∧ u = a / 8 ∧ v = a % 8) ∨ (p2 ∧ u = b / 8 ∧ v = b % 8)
noncomputable def spr (E : Nat → Nat → Prop) (x : Int32) (l : Nat) : Int32 := if bt x (l / 8) = true ∨ bt x (l % 8) = true then (x ||| jn E (l / 8)) ||| jn E (l % 8) else x
def clE (E : Nat → Nat → Prop) (x : Int32) : Prop := ∀ u v, E u v → (bt x u = true ↔ bt x v = true)
def edOK (E : Nat → Nat → Prop) : Prop := ∀ u v, E u v → u < 8 ∧ v < 8
theorem jn_cl {E : Nat → Nat → Prop} (hE : edOK E) (e : Nat) : clE E (jn E e) := fun u v h => by
  rw [jn_bt, jn_bt]
  have := hE u v h
  constructor
  · intro q; exact ⟨this.2, (rch_s h).mp q.2⟩
  · intro q; exact ⟨this.1, (rch_s h).mpr q.2⟩
theorem clE.or {E : Nat → Nat → Prop} {x y : Int32} (h1 : clE E x) (h2 : clE E y) : clE E (x ||| y) := fun u v h => by
  rw [b_or, b_or, Bool.or_eq_true, Bool.or_eq_true, h1 u v h, h2 u v h]
theorem spr_cl {E : Nat → Nat → Prop} (hE : edOK E) {x : Int32} (h : clE E x) (l : Nat) : clE E (spr E x l) := by
  unfold spr
  split
  · exact (h.or (jn_cl hE _)).or (jn_cl hE _)
  · exact h
theorem spr_le {E : Nat → Nat → Prop} {x : Int32} {l i : Nat} (h : bt x i = true) : bt (spr E x l) i = true := by
  unfold spr
  split
  · rw [b_or, b_or, h]; rfl
  · exact h
theorem spr_l {E : Nat → Nat → Prop} {x : Int32} {l : Nat} (hl : l < 64) (h : bt x (l / 8) = true ∨ bt x (l % 8) = true) : bt (spr E x l) (l / 8) = true ∧ bt (spr E x l) (l % 8) = true := by
  unfold spr
  rw [if_pos h, b_or, b_or, b_or, b_or]
  have h1 : bt (jn E (l / 8)) (l / 8) = true := jn_bt.mpr ⟨by omega, rch_r _ _⟩
  have h2 : bt (jn E (l % 8)) (l % 8) = true := jn_bt.mpr ⟨by omega, rch_r _ _⟩
  rw [h1, h2]
  simp
theorem rch_mono {E E' : Nat → Nat → Prop} (h : ∀ u v, E u v → E' u v) {e i : Nat} (hr : rch E e i) : rch E' e i := fun y h1 h2 => hr y h1 (fun u v q => h2 u v (h u v q))
theorem rch_t {E : Nat → Nat → Prop} {a b c : Nat} (h1 : rch E a b) (h2 : rch E b c) : rch E a c := fun y q1 q2 => h2 y (h1 y q1 q2) q2
theorem spr_on {E E' : Nat → Nat → Prop} (h : ∀ u v, E u v → E' u v) {x : Int32} {l : Nat} (hl : l < 64) (hx : onW E' 0 x) (hE : E' (l / 8) (l % 8)) : onW E' 0 (spr E x l) := by
  refine ⟨spr_le hx.1, fun i hi => ?_⟩
  unfold spr at hi
  split at hi
  · rename_i ht
    have hr : rch E' 0 (l / 8) ∧ rch E' 0 (l % 8) := by
      rcases ht with ht | ht
      · have := (hx.2 _ ht).2; exact ⟨this, (rch_s hE).mp this⟩
      · have := (hx.2 _ ht).2; exact ⟨(rch_s hE).mpr this, this⟩
    rw [b_or, b_or, Bool.or_eq_true, Bool.or_eq_true] at hi
    rcases hi with (hi | hi) | hi
    · exact hx.2 i hi
    · have := jn_bt.mp hi; exact ⟨this.1, rch_t hr.1 (rch_mono h this.2)⟩
    · have := jn_bt.mp hi; exact ⟨this.1, rch_t hr.2 (rch_mono h this.2)⟩
  · exact hx.2 i hi
theorem jn_on {E E' : Nat → Nat → Prop} (h : ∀ u v, E u v → E' u v) : onW E' 0 (jn E 0) := ⟨jn_bt.mpr ⟨by omega, rch_r _ _⟩, fun i hi => ⟨(jn_bt.mp hi).1, rch_mono h (jn_bt.mp hi).2⟩⟩
theorem spr_1 {E : Nat → Nat → Prop} (hE : edOK E) {l : Nat} (hl : l < 64) (b : Nat) : spr E (jn E 0) l = jn (EE E True l False b) 0 := by
  have hs : ∀ u v, E u v → EE E True l False b u v := fun u v h => Or.inl h
  have hon : onW (EE E True l False b) 0 (spr E (jn E 0) l) := spr_on hs hl (jn_on hs) (Or.inr (Or.inl ⟨trivial, rfl, rfl⟩))
  refine jn_of hon.1 (fun u v h => ?_) hon.2
  rcases h with h | ⟨-, h1, h2⟩ | ⟨h, -⟩
  · exact spr_cl hE (jn_cl hE 0) l u v h
  · rw [h1, h2]
    by_cases ht : bt (jn E 0) (l / 8) = true ∨ bt (jn E 0) (l % 8) = true
    · have := spr_l (E := E) hl ht; exact ⟨fun _ => this.2, fun _ => this.1⟩
    · unfold spr
      rw [if_neg ht]
      exact ⟨fun q => absurd (Or.inl q) ht, fun q => absurd (Or.inr q) ht⟩
  · exact absurd h id
theorem spr_2 {E : Nat → Nat → Prop} (hE : edOK E) {o l : Nat} (ho : o < 64) (hl : l < 64) : spr E (spr E (spr E (jn E 0) l) o) l = jn (EE E True o True l) 0 := by
  have hs : ∀ u v, E u v → EE E True o True l u v := fun u v h => Or.inl h
  have eo : EE E True o True l (o / 8) (o % 8) := Or.inr (Or.inl ⟨trivial, rfl, rfl⟩)
  have el : EE E True o True l (l / 8) (l % 8) := Or.inr (Or.inr ⟨trivial, rfl, rfl⟩)
  have hon : onW (EE E True o True l) 0 (spr E (spr E (spr E (jn E 0) l) o) l) := spr_on hs hl (spr_on hs ho (spr_on hs hl (jn_on hs) el) eo) el
  have hc1 := spr_cl hE (jn_cl hE 0) l
  have hc2 := spr_cl hE hc1 o
  have hc3 := spr_cl hE hc2 l
  refine jn_of hon.1 (fun u v h => ?_) hon.2
  rcases h with h | ⟨-, h1, h2⟩ | ⟨-, h1, h2⟩
  · exact hc3 u v h
  · rw [h1, h2]
    by_cases to : bt (spr E (jn E 0) l) (o / 8) = true ∨ bt (spr E (jn E 0) l) (o % 8) = true
    · have := spr_l (E := E) ho to
      exact ⟨fun _ => spr_le this.2, fun _ => spr_le this.1⟩
    · have e2 : spr E (spr E (jn E 0) l) o = spr E (jn E 0) l := if_neg to
      rw [e2]
      have e3 : spr E (spr E (jn E 0) l) l = spr E (jn E 0) l := by
        by_cases tl : bt (jn E 0) (l / 8) = true ∨ bt (jn E 0) (l % 8) = true
        · have e1 : spr E (jn E 0) l = (jn E 0 ||| jn E (l / 8)) ||| jn E (l % 8) := if_pos tl
          rw [e1]
          show (if _ then _ else _) = _
          split
          · refine b_iff (fun i => ?_)
            simp only [b_or, Bool.or_eq_true]
            constructor
            · rintro ((((h | h) | h) | h) | h) <;> simp [h]
            · intro h; exact Or.inl (Or.inl h)
          · rfl
        · have e1 : spr E (jn E 0) l = jn E 0 := if_neg tl
          rw [e1, e1]
      rw [e3]
      exact ⟨fun q => absurd (Or.inl q) to, fun q => absurd (Or.inr q) to⟩
  · rw [h1, h2]
    by_cases tl : bt (spr E (spr E (jn E 0) l) o) (l / 8) = true ∨ bt (spr E (spr E (jn E 0) l) o) (l % 8) = true
    · have := spr_l (E := E) hl tl
      exact ⟨fun _ => this.2, fun _ => this.1⟩
    · have e3 : spr E (spr E (spr E (jn E 0) l) o) l = spr E (spr E (jn E 0) l) o := if_neg tl
      rw [e3]
      exact ⟨fun q => absurd (Or.inl q) tl, fun q => absurd (Or.inr q) tl⟩
/-- all the ends burn -/
def hld (ends b : Int32) : Prop := (ends &&& (b ^^^ (-1))) = 0
def wne (N : Net) (sh : Int32) (tk : Nat) (h : Nat → Nat) (l : Nat) : Prop := ¬ way N (opl sh tk h) (l / 8) (l % 8) = []
noncomputable def hw1 (N : Net) (sh : Int32) (tk : Nat) (h : Nat → Nat) (l : Nat) : Nat → Nat := addW h (way N (opl sh tk h) (l / 8) (l % 8)) 1
def ok1 (N : Net) (sh : Int32) (tk : Nat) (h : Nat → Nat) (E : Nat → Nat → Prop) (ends : Int32) (l : Nat) : Prop := ¬ l / 8 = l % 8 ∧ wne N sh tk h l ∧ hld ends (jn (EE E True l False 0) 0)
def ok2 (N : Net) (sh : Int32) (tk : Nat) (h : Nat → Nat) (E : Nat → Nat → Prop) (ends : Int32) (o l : Nat) : Prop := ¬ l / 8 = l % 8 ∧ wne N sh tk (hw1 N sh tk h o) l ∧ hld ends (jn (EE E True o True l) 0)
def okT (N : Net) (sh : Int32) (tk : Nat) (h : Nat → Nat) (E : Nat → Nat → Prop) (ends : Int32) (o : Nat) : Prop := ¬ o / 8 = o % 8 ∧ wne N sh tk h o ∧ ∃ l, l < 64 ∧ ok2 N sh tk h E ends o l
theorem cuF_or {T : Nat → Prop} : ∀ (d k : Nat), (cuF T d k = -1 ∧ ∀ j, k ≤ j → j < k + d → ¬ T j) ∨ ∃ j, k ≤ j ∧ j < k + d ∧ cuF T d k = nI j ∧ T j := by
  intro d
  induction d with
  | zero => intro k; exact Or.inl ⟨rfl, fun j h1 h2 => by omega⟩
  | succ d ih =>
    intro k
    by_cases hT : T k
    · exact Or.inr ⟨k, Nat.le_refl _, by omega, cuF_t hT, hT⟩
    · rw [cuF_f hT]
      rcases ih (k + 1) with ⟨h1, h2⟩ | ⟨j, h1, h2, h3, h4⟩
      · refine Or.inl ⟨h1, fun j q1 q2 => ?_⟩
        by_cases hjk : j = k
        · rw [hjk]; exact hT
        · exact h2 j (by omega) (by omega)
      · exact Or.inr ⟨j, by omega, by omega, h3, h4⟩
/-- the answer of lit: how many, the first, the second -/
noncomputable def litA (N : Net) (sh : Int32) (tk : Nat) (h : Nat → Nat) (E : Nat → Nat → Prop) (ends : Int32) : Int32 × Int32 × Int32 := by
  classical exact (if hld ends (jn E 0) then (0, -1, -1) else
    if cuF (ok1 N sh tk h E ends) 64 0 ≠ -1 then (1, cuF (ok1 N sh tk h E ends) 64 0, -1) else
    if cuF (okT N sh tk h E ends) 64 0 ≠ -1 then (2, cuF (okT N sh tk h E ends) 64 0, cuF (ok2 N sh tk h E ends (cuF (okT N sh tk h E ends) 64 0).toNatClampNeg) 64 0) else (-1, -1, -1))
theorem litA_0 {N : Net} {sh : Int32} {tk : Nat} {h : Nat → Nat} {E : Nat → Nat → Prop} {ends : Int32} (h0 : hld ends (jn E 0)) : litA N sh tk h E ends = (0, -1, -1) := by
  classical
  unfold litA
  rw [if_pos h0]
theorem litA_1 {N : Net} {sh : Int32} {tk : Nat} {h : Nat → Nat} {E : Nat → Nat → Prop} {ends : Int32} (h0 : ¬ hld ends (jn E 0)) (h1 : cuF (ok1 N sh tk h E ends) 64 0 ≠ -1) : litA N sh tk h E ends = (1, cuF (ok1 N sh tk h E ends) 64 0, -1) := by
  classical
  unfold litA
  rw [if_neg h0, if_pos h1]
theorem litA_2 {N : Net} {sh : Int32} {tk : Nat} {h : Nat → Nat} {E : Nat → Nat → Prop} {ends : Int32} (h0 : ¬ hld ends (jn E 0)) (h1 : cuF (ok1 N sh tk h E ends) 64 0 = -1) {o : Nat} (ho : o < 64) (h2 : cuF (okT N sh tk h E ends) 64 0 = nI o) : litA N sh tk h E ends = (2, nI o, cuF (ok2 N sh tk h E ends o) 64 0) := by
  classical
  unfold litA
  rw [if_neg h0, if_neg (fun q => q h1), if_pos (by rw [h2]; exact nI_m1 (by omega)), h2, nI_clamp (show o < 2 ^ 31 by omega)]
theorem litA_3 {N : Net} {sh : Int32} {tk : Nat} {h : Nat → Nat} {E : Nat → Nat → Prop} {ends : Int32} (h0 : ¬ hld ends (jn E 0)) (h1 : cuF (ok1 N sh tk h E ends) 64 0 = -1) (h2 : cuF (okT N sh tk h E ends) 64 0 = -1) : litA N sh tk h E ends = (-1, -1, -1) := by
  classical
  unfold litA
  rw [if_neg h0, if_neg (fun q => q h1), if_neg (fun q => q h2)]
theorem e8 {l : Nat} (hl : l < 64) : nI l / 8 = nI (l / 8) ∧ nI l - nI (l / 8) * 8 = nI (l % 8) := by
  have h1 : nI l / 8 = nI (l / 8) := pk_div (d := 8) (by omega) (by omega) (by omega)
  have h2 : nI l - nI l / 8 * 8 = nI (l % 8) := pk_rem (d := 8) (by omega) (by omega) (by omega)
  rw [h1] at h2
  exact ⟨h1, h2⟩
