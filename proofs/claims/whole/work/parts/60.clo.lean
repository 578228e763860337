/-! what is joined to what -/
def rch (E : Nat → Nat → Prop) (e i : Nat) : Prop := ∀ y : Nat → Prop, y e → (∀ u v, E u v → (y u ↔ y v)) → y i
noncomputable def jn (E : Nat → Nat → Prop) (e : Nat) : Int32 := by
  classical exact bsf 8 (fun i => decide (rch E e i))
theorem rch_r (E : Nat → Nat → Prop) (e : Nat) : rch E e e := fun _ h _ => h
theorem rch_s {E : Nat → Nat → Prop} {e u v : Nat} (h : E u v) : rch E e u ↔ rch E e v := ⟨fun k y h1 h2 => (h2 u v h).mp (k y h1 h2), fun k y h1 h2 => (h2 u v h).mpr (k y h1 h2)⟩
theorem jn_bt {E : Nat → Nat → Prop} {e i : Nat} : bt (jn E e) i = true ↔ (i < 8 ∧ rch E e i) := by
  classical
  unfold jn
  rw [bsf_bt _ 8 i (by omega)]
  simp
theorem b_iff {x y : Int32} (h : ∀ i, bt x i = true ↔ bt y i = true) : x = y := b_ext (fun i _ => by
  have h1 := h i
  cases ha : bt x i <;> cases hb : bt y i <;> simp_all)
theorem jn_of {E : Nat → Nat → Prop} {e : Nat} {x : Int32} (h0 : bt x e = true) (hc : ∀ u v, E u v → (bt x u = true ↔ bt x v = true)) (hs : ∀ i, bt x i = true → i < 8 ∧ rch E e i) : x = jn E e := by
  refine b_iff (fun i => ⟨fun h => jn_bt.mpr (hs i h), fun h => ?_⟩)
  exact (jn_bt.mp h).2 (fun i => bt x i = true) h0 hc
theorem jn_cg {E E' : Nat → Nat → Prop} (h : ∀ u v, E u v ↔ E' u v) (e : Nat) : jn E e = jn E' e := by
  have : E = E' := by funext u v; exact propext (h u v)
  rw [this]
/-- one edge -/
def adj (x : Int32) (a b : Nat) : Int32 := if bt x a = true ∨ bt x b = true then x ||| (sb (nI a) ||| sb (nI b)) else x
theorem adj_bt {x : Int32} {a b : Nat} (ha : a < 8) (hb : b < 8) (i : Nat) : bt (adj x a b) i = true ↔ (bt x i = true ∨ ((bt x a = true ∨ bt x b = true) ∧ (i = a ∨ i = b))) := by
  unfold adj
  by_cases h : bt x a = true ∨ bt x b = true
  · rw [if_pos h, b_or, b_or, b_sb (by omega), b_sb (by omega)]
    simp [h]
  · rw [if_neg h]
    constructor
    · exact Or.inl
    · rintro (h1 | ⟨h1, -⟩)
      · exact h1
      · exact absurd h1 h
theorem msk_z {x : Int32} {a b : Nat} (ha : a < 8) (hb : b < 8) : (x &&& (sb (nI a) ||| sb (nI b))) = 0 ↔ ¬ (bt x a = true ∨ bt x b = true) := by
  rw [b_az]
  constructor
  · rintro h (h1 | h1)
    · exact h a (by omega) ⟨h1, by rw [b_or, b_sb (by omega), b_sb (by omega)]; simp⟩
    · exact h b (by omega) ⟨h1, by rw [b_or, b_sb (by omega), b_sb (by omega)]; simp⟩
  · intro h i _ hi
    rw [b_or, b_sb (by omega), b_sb (by omega)] at hi
    have h2 := hi.2
    simp at h2
    rcases h2 with h2 | h2
    · rw [h2] at hi; exact h (Or.inl hi.1)
    · rw [h2] at hi; exact h (Or.inr hi.1)
theorem adj_C {x : Int32} {a b : Nat} (ha : a < 8) (hb : b < 8) : (if (x &&& (sb (nI a) ||| sb (nI b))) = 0 then x else x ||| (sb (nI a) ||| sb (nI b))) = adj x a b := by
  unfold adj
  by_cases h : bt x a = true ∨ bt x b = true
  · rw [if_pos h, if_neg (fun hz => (msk_z ha hb).mp hz h)]
  · rw [if_neg h, if_pos ((msk_z ha hb).mpr h)]
theorem adj_M {x : Int32} {a b : Nat} (ha : a < 8) (hb : b < 8) : x ||| (if tbb x (nI a) = true ∨ tbb x (nI b) = true then sb (nI a) ||| sb (nI b) else 0) = adj x a b := by
  unfold adj
  rw [tbb_n _ (by omega), tbb_n _ (by omega)]
  by_cases h : bt x a = true ∨ bt x b = true
  · rw [if_pos h, if_pos h]
  · rw [if_neg h, if_neg h, Int32.or_zero]
/-- how many of the eight bits -/
def c8b (x : Int32) : Nat := s8 (fun v => b1 (bt x v))
theorem c8b_8 (x : Int32) : c8b x ≤ 8 := by
  have h := fun v => b1_le (bt x v)
  have h0 := h 0; have h1 := h 1; have h2 := h 2; have h3 := h 3; have h4 := h 4; have h5 := h 5; have h6 := h 6; have h7 := h 7
  show b1 (bt x 0) + b1 (bt x 1) + b1 (bt x 2) + b1 (bt x 3) + b1 (bt x 4) + b1 (bt x 5) + b1 (bt x 6) + b1 (bt x 7) ≤ 8
  omega
theorem c8b_lt {x y : Int32} (hle : ∀ i, bt x i = true → bt y i = true) (hhi : ∀ i, bt y i = true → i < 8) (hne : ¬ y = x) : c8b x < c8b y := by
  have hex : ∃ i, i < 8 ∧ bt y i = true ∧ bt x i = false := by
    refine Classical.byContradiction (fun hno => hne (b_iff (fun i => ⟨fun h => ?_, hle i⟩)))
    cases hx : bt x i
    · exact absurd ⟨i, hhi i h, h, hx⟩ hno
    · rfl
  obtain ⟨i, h1, h2, h3⟩ := hex
  refine s8_lt (fun v _ => ?_) h1 (by rw [h2, h3]; decide)
  cases hv : bt x v
  · exact Nat.zero_le _
  · rw [hle v hv]; exact Nat.le_refl _
/-- a set on the way to all that is joined to e -/
def onW (E : Nat → Nat → Prop) (e : Nat) (x : Int32) : Prop := bt x e = true ∧ ∀ i, bt x i = true → i < 8 ∧ rch E e i
theorem onW.s {E : Nat → Nat → Prop} {e : Nat} (he : e < 8) : onW E e (sb (nI e)) := by
  refine ⟨by rw [b_sb (by omega)]; simp, fun i hi => ?_⟩
  rw [b_sb (by omega)] at hi
  rw [of_decide_eq_true hi]
  exact ⟨he, rch_r E e⟩
theorem onW.adj {E : Nat → Nat → Prop} {e a b : Nat} {x : Int32} (h : onW E e x) (ha : a < 8) (hb : b < 8) (hE : E a b) : onW E e (adj x a b) := by
  refine ⟨(adj_bt ha hb e).mpr (Or.inl h.1), fun i hi => ?_⟩
  rcases (adj_bt ha hb i).mp hi with h1 | ⟨h1, h2⟩
  · exact h.2 i h1
  · have hr : rch E e a ∧ rch E e b := by
      rcases h1 with h1 | h1
      · have := (h.2 a h1).2; exact ⟨this, (rch_s hE).mp this⟩
      · have := (h.2 b h1).2; exact ⟨(rch_s hE).mpr this, this⟩
    rcases h2 with h2 | h2
    · rw [h2]; exact ⟨ha, hr.1⟩
    · rw [h2]; exact ⟨hb, hr.2⟩
/-- a round over edges: x is what comes of x0 by the first ones -/
def rnd (E : Nat → Nat → Prop) (e : Nat) (x0 : Int32) (S : Nat → Nat → Prop) (x : Int32) : Prop := onW E e x ∧ (∀ i, bt x0 i = true → bt x i = true) ∧ (x = x0 → ∀ u v, S u v → (bt x0 u = true ↔ bt x0 v = true))
theorem rnd.z {E : Nat → Nat → Prop} {e : Nat} {x0 : Int32} {S : Nat → Nat → Prop} (h : onW E e x0) (hS : ∀ u v, ¬ S u v) : rnd E e x0 S x0 := ⟨h, fun _ hi => hi, fun _ u v hs => absurd hs (hS u v)⟩
theorem rnd.same {E : Nat → Nat → Prop} {e : Nat} {x0 x : Int32} {S S' : Nat → Nat → Prop} (h : rnd E e x0 S x) (hS : ∀ u v, S' u v → S u v) : rnd E e x0 S' x := ⟨h.1, h.2.1, fun hx u v hs => h.2.2 hx u v (hS u v hs)⟩
theorem rnd.adj {E : Nat → Nat → Prop} {e a b : Nat} {x0 x : Int32} {S S' : Nat → Nat → Prop} (h : rnd E e x0 S x) (ha : a < 8) (hb : b < 8) (hE : E a b) (hS : ∀ u v, S' u v → S u v ∨ (u = a ∧ v = b)) : rnd E e x0 S' (adj x a b) := by
  refine ⟨h.1.adj ha hb hE, fun i hi => (adj_bt ha hb i).mpr (Or.inl (h.2.1 i hi)), fun hx u v hs => ?_⟩
  have hxx : x = x0 := b_iff (fun i => ⟨fun hi => by rw [← hx]; exact (adj_bt ha hb i).mpr (Or.inl hi), h.2.1 i⟩)
  rcases hS u v hs with h1 | ⟨h1, h2⟩
  · exact h.2.2 hxx u v h1
  · rw [h1, h2]
    have k := fun i => adj_bt (x := x) ha hb i
    rw [hx] at k
    have ka := k a
    have kb := k b
    rw [hxx] at ka kb
    constructor
    · intro q; exact kb.mpr (Or.inr ⟨Or.inl q, Or.inr rfl⟩)
    · intro q; exact ka.mpr (Or.inr ⟨Or.inr q, Or.inl rfl⟩)
theorem rnd.fin {E : Nat → Nat → Prop} {e : Nat} {x0 x : Int32} (h : rnd E e x0 E x) (hx : x = x0) : x0 = jn E e := by
  rw [hx] at h
  exact jn_of h.1.1 (h.2.2 rfl) h.1.2
/-- the wires as edges -/
def wE (f t : Nat → Int32) (ws : Int32) (k : Nat) (u v : Nat) : Prop := ∃ w, w < k ∧ bt ws w = true ∧ u < 8 ∧ v < 8 ∧ f w = nI u ∧ t w = nI v
def wOK (f t : Nat → Int32) (ws : Int32) : Prop := ∀ w, w < 16 → bt ws w = true → ∃ a b : Nat, a < 8 ∧ b < 8 ∧ f w = nI a ∧ t w = nI b
theorem wE_s {f t : Nat → Int32} {ws : Int32} {k a b : Nat} (hb : bt ws k = true) (ha8 : a < 8) (hb8 : b < 8) (hf : f k = nI a) (ht : t k = nI b) (u v : Nat) : wE f t ws (k + 1) u v → wE f t ws k u v ∨ (u = a ∧ v = b) := by
  rintro ⟨w, h1, h2, h3, h4, h5, h6⟩
  by_cases hw : w = k
  · rw [hw, hf] at h5
    rw [hw, ht] at h6
    exact Or.inr ⟨((nI_eq (by omega) (by omega)).mp h5).symm, ((nI_eq (by omega) (by omega)).mp h6).symm⟩
  · exact Or.inl ⟨w, by omega, h2, h3, h4, h5, h6⟩
theorem wE_n {f t : Nat → Int32} {ws : Int32} {k : Nat} (hb : ¬ bt ws k = true) (u v : Nat) : wE f t ws (k + 1) u v → wE f t ws k u v := by
  rintro ⟨w, h1, h2, h3, h4, h5, h6⟩
  by_cases hw : w = k
  · rw [hw] at h2; exact absurd h2 hb
  · exact ⟨w, by omega, h2, h3, h4, h5, h6⟩
theorem Sb_joinedTo {f t : Nat → Int32} {ws : Int32} {e : Nat} {g : Sg} {Q : Int32 → Sg → Prop} (he : e < 8) (hok : wOK f t ws) (h12 : ∀ w, w < 16 → bt ws w = true → g 12 w = f w ∧ g 13 w = t w) (hQ : Q (jn (wE f t ws 16) e) g) : Cb_joinedTo (nI e) ws g Q := by
  have inner : ∀ (x0 : Int32) (r : Nat), (∀ x, rnd (wE f t ws 16) e x0 (wE f t ws 16) x → Hb_joinedTo_11 ws x x0 (nI r + 1) g Q) → ∀ (d k : Nat) (x : Int32), k + d = 16 → rnd (wE f t ws 16) e x0 (wE f t ws k) x → Hb_joinedTo_30 ws x x0 (nI r) (nI k) g Q := by
    intro x0 r hk d
    induction d with
    | zero =>
      intro k x hkd hx
      have hk16 : k = 16 := by omega
      rw [hk16] at hx ⊢
      exact Vb_joinedTo_30 (brT (by decide) (hk x hx))
    | succ d ih =>
      intro k x hkd hx
      refine Vb_joinedTo_30 (brF (fun hxx => ?_) ?_)
      · have : 16 ≤ k := (nI_leI (a := 16) (b := k) (by omega) (by omega)).mp hxx
        omega
      rw [tbb_n _ (show k < 32 by omega), nI_clamp (show k < 2 ^ 31 by omega), nI_1]
      by_cases hb : bt ws k = true
      · obtain ⟨a, b, ha8, hb8, hf, ht⟩ := hok k (by omega) hb
        obtain ⟨e12, e13⟩ := h12 k (by omega) hb
        rw [e12, e13, hf, ht]
        have hE : wE f t ws 16 a b := ⟨k, by omega, hb, ha8, hb8, hf, ht⟩
        have hn := ih (k + 1) (adj x a b) (by omega) (hx.adj ha8 hb8 hE (fun u v => wE_s hb ha8 hb8 hf ht u v))
        rw [← adj_C ha8 hb8] at hn
        refine brT hb ⟨vp_in_nI (by omega) (by omega), fun hz => ?_, fun hz => ⟨vp_in_nI (by omega) (by omega), ?_⟩⟩
        · rw [if_pos hz] at hn; exact hn
        · rw [if_neg hz] at hn; exact hn
      · exact brF hb (ih (k + 1) x (by omega) (hx.same (fun u v => wE_n hb u v)))
  have outer : ∀ (d r : Nat) (x y : Int32), r + d = 8 → onW (wE f t ws 16) e x → (x = y → x = jn (wE f t ws 16) e) → (¬ x = y → r + 1 ≤ c8b x) → Hb_joinedTo_11 ws x y (nI r) g Q := by
    intro d
    induction d with
    | zero =>
      intro r x y hrd hx hxy hc
      have hr : r = 8 := by omega
      have hxe : x = y := Classical.byContradiction (fun hne => by
        have h1 := hc hne
        have h2 := c8b_8 x
        omega)
      rw [hr]
      refine Vb_joinedTo_11 (brT (by decide) ?_)
      rw [hxy hxe]; exact hQ
    | succ d ih =>
      intro r x y hrd hx hxy hc
      refine Vb_joinedTo_11 (brF (fun hxx => ?_) ⟨fun h => ?_, fun h => ?_⟩)
      · have : 8 ≤ r := (nI_leI (a := 8) (b := r) (by omega) (by omega)).mp hxx
        omega
      · rw [hxy h]; exact hQ
      · refine inner x r (fun x' hx' => ?_) 16 0 x (by omega) (rnd.z hx (fun u v hs => by obtain ⟨w, hw, -⟩ := hs; omega))
        rw [nI_1]
        refine ih (r + 1) x' x (by omega) hx'.1 (fun h' => h'.trans (hx'.fin h')) (fun hne => ?_)
        have h1 := c8b_lt hx'.2.1 (fun i hi => (hx'.1.2 i hi).1) hne
        have h2 := hc h
        omega
  refine Vb_joinedTo (outer 8 0 _ 0 (by omega) (onW.s he) (fun h => ?_) (fun _ => ?_))
  · have : bt (sb (nI e)) e = true := (onW.s (E := wE f t ws 16) he).1
    rw [h, b_0] at this
    cases this
  · have h1 : c8b 0 < c8b (sb (nI e)) := c8b_lt (fun i hi => by rw [b_0] at hi; cases hi) (fun i hi => ((onW.s (E := wE f t ws 16) he).2 i hi).1) (fun h => by
      have : bt (sb (nI e)) e = true := (onW.s (E := wE f t ws 16) he).1
      rw [h, b_0] at this
      cases this)
    omega
/-- one edge more, or none -/
def exE (x y : Int32) (u v : Nat) : Prop := ¬ x = -1 ∧ u < 8 ∧ v < 8 ∧ x = nI u ∧ y = nI v
def exOK (x y : Int32) : Prop := x = -1 ∨ ∃ a b : Nat, a < 8 ∧ b < 8 ∧ x = nI a ∧ y = nI b
theorem exE_n {y : Int32} {u v : Nat} : ¬ exE (-1) y u v := fun h => h.1 rfl
theorem exE_s {a b : Nat} (ha : a < 8) (hb : b < 8) {u v : Nat} : exE (nI a) (nI b) u v ↔ (u = a ∧ v = b) := by
  constructor
  · rintro ⟨-, h1, h2, h3, h4⟩
    exact ⟨((nI_eq (by omega) (by omega)).mp h3).symm, ((nI_eq (by omega) (by omega)).mp h4).symm⟩
  · rintro ⟨rfl, rfl⟩
    exact ⟨nI_m1 (by omega), ha, hb, rfl, rfl⟩
theorem Sm_burnsBy {f t : Nat → Int32} {ws x2 x3 x4 x5 : Int32} {g : Sg} {Q : Int32 → Sg → Prop} (hok : wOK f t ws) (h42 : ∀ w, w < 16 → bt ws w = true → g 42 (2 * w) = f w ∧ g 42 (2 * w + 1) = t w) (h2 : exOK x2 x3) (h4 : exOK x4 x5)
    (hQ : Q (jn (fun u v => wE f t ws 16 u v ∨ exE x2 x3 u v ∨ exE x4 x5 u v) 0) g) : Cm_burnsBy ws x2 x3 x4 x5 g Q := by
  obtain ⟨E, hE⟩ : ∃ E : Nat → Nat → Prop, E = (fun u v => wE f t ws 16 u v ∨ exE x2 x3 u v ∨ exE x4 x5 u v) := ⟨_, rfl⟩
  have hEi : ∀ u v, E u v ↔ (wE f t ws 16 u v ∨ exE x2 x3 u v ∨ exE x4 x5 u v) := fun u v => by rw [hE]
  rw [← hE] at hQ
  have inner : ∀ (x0 : Int32), (∀ x, rnd E 0 x0 E x → Hm_burnsBy_6 ws x2 x3 x4 x5 x x0 g Q) → ∀ (d k : Nat) (x : Int32), k + d = 16 → rnd E 0 x0 (wE f t ws k) x → Hm_burnsBy_20 ws x2 x3 x4 x5 x x0 (nI k) g Q := by
    intro x0 hk d
    induction d with
    | zero =>
      intro k x hkd hx
      have hk16 : k = 16 := by omega
      rw [hk16] at hx ⊢
      refine Vm_burnsBy_20 (brT (by decide) ⟨fun q2 => ?_, fun q2 => ?_⟩)
      · simp only [Int32.or_zero]
        refine ⟨fun q4 => ?_, fun q4 => ?_⟩
        · refine hk x (hx.same (fun u v h => ?_))
          rcases (hEi u v).mp h with h | h | h
          · exact h
          · exact absurd q2 h.1
          · exact absurd q4 h.1
        · rcases h4 with h4 | ⟨a, b, ha, hb, e4, e5⟩
          · exact absurd h4 q4
          · rw [e4, e5] at hk hEi ⊢
            rw [adj_M ha hb]
            refine hk _ (hx.adj ha hb ((hEi a b).mpr (Or.inr (Or.inr ((exE_s ha hb).mpr ⟨rfl, rfl⟩)))) (fun u v h => ?_))
            rcases (hEi u v).mp h with h | h | h
            · exact Or.inl h
            · exact absurd q2 h.1
            · exact Or.inr ((exE_s ha hb).mp h)
      · rcases h2 with h2 | ⟨a, b, ha, hb, e2, e3⟩
        · exact absurd h2 q2
        · rw [e2, e3] at hk hEi ⊢
          rw [adj_M ha hb]
          have hab : E a b := (hEi a b).mpr (Or.inr (Or.inl ((exE_s ha hb).mpr ⟨rfl, rfl⟩)))
          refine ⟨fun q4 => ?_, fun q4 => ?_⟩
          · rw [Int32.or_zero]
            refine hk _ (hx.adj ha hb hab (fun u v h => ?_))
            rcases (hEi u v).mp h with h | h | h
            · exact Or.inl h
            · exact Or.inr ((exE_s ha hb).mp h)
            · exact absurd q4 h.1
          · rcases h4 with h4 | ⟨c, d, hc, hd, e4, e5⟩
            · exact absurd h4 q4
            · rw [e4, e5] at hk hEi ⊢
              rw [adj_M hc hd]
              have h1 : rnd E 0 x0 (fun u v => wE f t ws 16 u v ∨ (u = a ∧ v = b)) (adj x a b) := hx.adj ha hb hab (fun u v h => h)
              refine hk _ (h1.adj hc hd ((hEi c d).mpr (Or.inr (Or.inr ((exE_s hc hd).mpr ⟨rfl, rfl⟩)))) (fun u v h => ?_))
              rcases (hEi u v).mp h with h | h | h
              · exact Or.inl (Or.inl h)
              · exact Or.inl (Or.inr ((exE_s ha hb).mp h))
              · exact Or.inr ((exE_s hc hd).mp h)
    | succ d ih =>
      intro k x hkd hx
      refine Vm_burnsBy_20 (brF (fun hxx => ?_) ?_)
      · have : 16 ≤ k := (nI_leI (a := 16) (b := k) (by omega) (by omega)).mp hxx
        omega
      obtain ⟨i1, i2, i3, i4⟩ := ix2 (show k < 16 by omega)
      rw [tbb_n _ (show k < 32 by omega), nI_1, i1, i2]
      by_cases hb : bt ws k = true
      · obtain ⟨a, b, ha8, hb8, hf, ht⟩ := hok k (by omega) hb
        obtain ⟨e12, e13⟩ := h42 k (by omega) hb
        refine brT hb ⟨i3, i4, ?_⟩
        rw [e12, e13, hf, ht, adj_M ha8 hb8]
        have hEab : E a b := (hEi a b).mpr (Or.inl ⟨k, by omega, hb, ha8, hb8, hf, ht⟩)
        exact ih (k + 1) (adj x a b) (by omega) (hx.adj ha8 hb8 hEab (fun u v => wE_s hb ha8 hb8 hf ht u v))
      · refine brF hb ?_
        rw [Int32.or_zero]
        exact ih (k + 1) x (by omega) (hx.same (fun u v => wE_n hb u v))
  have outer : ∀ (d : Nat) (x y : Int32), 8 ≤ c8b x + d → onW E 0 x → (x = y → x = jn E 0) → Hm_burnsBy_6 ws x2 x3 x4 x5 x y g Q := by
    intro d
    induction d with
    | zero =>
      intro x y hcd hx hxy
      refine Vm_burnsBy_6 ⟨fun h => by rw [hxy h]; exact hQ, fun h => inner x (fun x' hx' => ?_) 16 0 x (by omega) (rnd.z hx (fun u v hs => by obtain ⟨w, hw, -⟩ := hs; omega))⟩
      have he : x' = x := Classical.byContradiction (fun hne => by
        have h1 := c8b_lt hx'.2.1 (fun i hi => (hx'.1.2 i hi).1) hne
        have h2 := c8b_8 x'
        omega)
      refine Vm_burnsBy_6 (brT he ?_)
      rw [he, hx'.fin he]; exact hQ
    | succ d ih =>
      intro x y hcd hx hxy
      refine Vm_burnsBy_6 ⟨fun h => by rw [hxy h]; exact hQ, fun h => inner x (fun x' hx' => ?_) 16 0 x (by omega) (rnd.z hx (fun u v hs => by obtain ⟨w, hw, -⟩ := hs; omega))⟩
      by_cases he : x' = x
      · refine Vm_burnsBy_6 (brT he ?_)
        rw [he, hx'.fin he]; exact hQ
      · have h1 := c8b_lt hx'.2.1 (fun i hi => (hx'.1.2 i hi).1) he
        exact ih x' x (by omega) hx'.1 (fun h' => absurd h' he)
  refine Vm_burnsBy (outer 8 _ 0 (by omega) (onW.s (e := 0) (by omega)) (fun h => ?_))
  exact absurd h (by decide)
