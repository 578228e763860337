/-! flows and cuts -/
def smI : Nat → (Nat → Int) → Int
  | 0, _ => 0
  | n + 1, f => smI n f + f n
def io (b : Bool) : Int := if b = true then 1 else 0
theorem smI_cg {f h : Nat → Int} : ∀ n : Nat, (∀ w, w < n → f w = h w) → smI n f = smI n h := by
  intro n
  induction n with
  | zero => intro _; rfl
  | succ n ih =>
    intro hw
    show smI n f + f n = smI n h + h n
    rw [ih (fun w hlt => hw w (by omega)), hw n (by omega)]
theorem smI_le {f h : Nat → Int} : ∀ n : Nat, (∀ w, w < n → f w ≤ h w) → smI n f ≤ smI n h := by
  intro n
  induction n with
  | zero => intro _; exact Int.le_refl _
  | succ n ih =>
    intro hw
    show smI n f + f n ≤ smI n h + h n
    have h1 := ih (fun w hlt => hw w (by omega))
    have h2 := hw n (by omega)
    omega
theorem smI_ub {f : Nat → Int} {c : Int} : ∀ n : Nat, (∀ w, w < n → f w ≤ c) → smI n f ≤ n * c := by
  intro n
  induction n with
  | zero => intro _; show (0 : Int) ≤ _; simp
  | succ n ih =>
    intro hw
    have h1 := ih (fun w hlt => hw w (by omega))
    have h2 := hw n (by omega)
    show smI n f + f n ≤ ((n + 1 : Nat) : Int) * c
    have e : ((n + 1 : Nat) : Int) * c = (n : Int) * c + c := by
      rw [Int.natCast_add, Int.add_mul]
      simp
    omega
def updI (f : Nat → Int) (p : Nat) (x : Int) : Nat → Int := fun q => if q = p then x else f q
def phi (N : Net) (S : Nat → Bool) (f : Nat → Int) : Int := smI N.1 (fun p => f p * (io (S (nA N p)) - io (S (nB N p))))
theorem phi_upd {N : Net} {S : Nat → Bool} {f : Nat → Int} {p : Nat} (hp : p < N.1) (d : Int) : phi N S (updI f p (f p + d)) = phi N S f + d * (io (S (nA N p)) - io (S (nB N p))) := by
  have key : ∀ n : Nat, smI n (fun q => updI f p (f p + d) q * (io (S (nA N q)) - io (S (nB N q)))) = smI n (fun q => f q * (io (S (nA N q)) - io (S (nB N q)))) + (if p < n then d * (io (S (nA N p)) - io (S (nB N p))) else 0) := by
    intro n
    induction n with
    | zero => rfl
    | succ n ih =>
      show smI n _ + updI f p (f p + d) n * (io (S (nA N n)) - io (S (nB N n))) = smI n _ + f n * (io (S (nA N n)) - io (S (nB N n))) + _
      rw [ih]
      by_cases hn : n = p
      · subst hn
        rw [if_neg (Nat.lt_irrefl n), if_pos (Nat.lt_succ_self n)]
        have : updI f n (f n + d) n = f n + d := by simp [updI]
        rw [this, Int.add_mul]
        omega
      · have : updI f p (f p + d) n = f n := by simp [updI, hn]
        rw [this]
        by_cases hl : p < n
        · rw [if_pos hl, if_pos (by omega)]; omega
        · rw [if_neg hl, if_neg (by omega)]; omega
  have h := key N.1
  rw [if_pos hp] at h
  exact h
/-- a flow keeps within what the pipes take -/
def FLw (N : Net) (cp : Nat → Nat) (f : Nat → Int) : Prop := ∀ p, p < N.1 → -(cp p : Int) ≤ f p ∧ f p ≤ cp p
/-- it brings v wires over each cut -/
def VI (N : Net) (a b : Nat) (f : Nat → Int) (v : Int) : Prop := ∀ S : Nat → Bool, S a = true → S b = false → phi N S f = v
def cutc (N : Net) (cp : Nat → Nat) (S : Nat → Bool) : Int := smI N.1 (fun p => if S (nA N p) = S (nB N p) then 0 else (cp p : Int))
theorem phi_le {N : Net} {cp : Nat → Nat} {f : Nat → Int} (h : FLw N cp f) (S : Nat → Bool) : phi N S f ≤ cutc N cp S := by
  refine smI_le N.1 (fun p hp => ?_)
  have h1 := h p hp
  cases hA : S (nA N p) <;> cases hB : S (nB N p) <;> simp [io] <;> omega
theorem phi_eq {N : Net} {cp : Nat → Nat} {f : Nat → Int} {S : Nat → Bool} (h : ∀ p, p < N.1 → (S (nA N p) = true → S (nB N p) = false → f p = cp p) ∧ (S (nB N p) = true → S (nA N p) = false → -f p = cp p)) : phi N S f = cutc N cp S := by
  refine smI_cg N.1 (fun p hp => ?_)
  obtain ⟨h1, h2⟩ := h p hp
  cases hA : S (nA N p) <;> cases hB : S (nB N p) <;> simp [io]
  · have := h2 hB hA; omega
  · have := h1 hA hB; omega
/-- the greatest flow -/
def IsMx (N : Net) (cp : Nat → Nat) (a b : Nat) (v : Nat) : Prop := (∃ S : Nat → Bool, S a = true ∧ S b = false ∧ cutc N cp S = v) ∧ ∃ f, FLw N cp f ∧ VI N a b f v
theorem IsMx.un {N : Net} {cp : Nat → Nat} {a b v w : Nat} (h : IsMx N cp a b v) (h' : IsMx N cp a b w) : v = w := by
  obtain ⟨⟨S, s1, s2, s3⟩, f, f1, f2⟩ := h
  obtain ⟨⟨S', s1', s2', s3'⟩, f', f1', f2'⟩ := h'
  have q1 := phi_le f1 S'
  rw [f2 S' s1' s2', s3'] at q1
  have q2 := phi_le f1' S
  rw [f2' S s1 s2, s3] at q2
  omega
noncomputable def mxf (N : Net) (cp : Nat → Nat) (a b : Nat) : Nat := by
  classical exact (if h : ∃ v, IsMx N cp a b v then Classical.choose h else 0)
theorem mxf_of {N : Net} {cp : Nat → Nat} {a b v : Nat} (h : IsMx N cp a b v) : mxf N cp a b = v := by
  classical
  have hex : ∃ v, IsMx N cp a b v := ⟨v, h⟩
  unfold mxf
  rw [dif_pos hex]
  exact (Classical.choose_spec hex).un h
theorem VI.z (N : Net) (a b : Nat) : VI N a b (fun _ => 0) 0 := fun S _ _ => by
  have : ∀ n : Nat, smI n (fun p => (0 : Int) * (io (S (nA N p)) - io (S (nB N p)))) = 0 := by
    intro n
    induction n with
    | zero => rfl
    | succ n ih => show smI n _ + (0 : Int) * _ = 0; rw [ih, Int.zero_mul]; rfl
  exact this N.1
theorem FLw.z (N : Net) (cp : Nat → Nat) : FLw N cp (fun _ => 0) := fun p _ => by
  show -(cp p : Int) ≤ 0 ∧ (0 : Int) ≤ cp p
  omega
theorem cut64 {N : Net} (hN : N.1 ≤ 16) {cp : Nat → Nat} (hc : ∀ p, cp p ≤ 4) (S : Nat → Bool) : cutc N cp S ≤ 64 := by
  have h1 : cutc N cp S ≤ N.1 * 4 := smI_ub N.1 (fun p _ => by
    have := hc p
    show (if S (nA N p) = S (nB N p) then 0 else (cp p : Int)) ≤ 4
    split <;> omega)
  omega
theorem opp_A {N : Net} {p u : Nat} (h : nA N p = u) : opp N p u = nB N p := by unfold opp; rw [if_pos h]
theorem opp_B {N : Net} (hN : netOK N) {p u : Nat} (hp : p < N.1) (h : nB N p = u) : opp N p u = nA N p := by
  have h1 := (hN.2 p hp).2.2.1
  have h2 : ¬ nA N p = u := by omega
  unfold opp
  rw [if_neg h2]
theorem opp2 {N : Net} (hN : netOK N) {p u : Nat} (hp : p < N.1) (h : tch N p u) : opp N p (opp N p u) = u := by
  rcases h with h | h
  · rw [opp_A h, opp_B hN hp rfl]; exact h
  · rw [opp_B hN hp h, opp_A rfl]; exact h
/-- room through p from u to the other end -/
def hasR (N : Net) (cp : Nat → Nat) (f : Nat → Int) (p u : Nat) : Prop := if nA N p = u then f p < cp p else -f p < cp p
/-- the ends that were come to, by which pipe, in which order -/
def Tre (N : Net) (cp : Nat → Nat) (f : Nat → Int) (a : Nat) (T : Nat → Prop) (by_ rk : Nat → Nat) : Prop := T a ∧ (∀ v, T v → v < 8) ∧ ∀ v, T v → v ≠ a → by_ v < N.1 ∧ tch N (by_ v) v ∧ T (opp N (by_ v) v) ∧ rk (opp N (by_ v) v) < rk v ∧ hasR N cp f (by_ v) (opp N (by_ v) v)
theorem Tre.add {N : Net} {cp : Nat → Nat} {f : Nat → Int} {a : Nat} {T : Nat → Prop} {by_ rk : Nat → Nat} (hN : netOK N) (h : Tre N cp f a T by_ rk) {k p u : Nat} (hk : ∀ v, T v → rk v < k) (hp : p < N.1) (hu : T u) (ht : tch N p u) (hr : hasR N cp f p u) (hn : ¬ T (opp N p u)) : Tre N cp f a (fun v => T v ∨ v = opp N p u) (updN by_ (opp N p u) p) (updN rk (opp N p u) k) := by
  have hol := opp_lt hN u hp
  have hone := opp_ne hN (v := u) hp
  have hoo : opp N p (opp N p u) = u := opp2 hN hp ht
  have hto : tch N p (opp N p u) := by
    unfold tch opp
    split
    · exact Or.inr rfl
    · exact Or.inl rfl
  refine ⟨Or.inl h.1, fun v hv => hv.elim (h.2.1 v) (fun e => by rw [e]; exact hol), fun v hv hva => ?_⟩
  by_cases hvo : v = opp N p u
  · subst hvo
    have e1 : updN by_ (opp N p u) p (opp N p u) = p := by simp [updN]
    have e2 : updN rk (opp N p u) k (opp N p u) = k := by simp [updN]
    have e3 : updN rk (opp N p u) k u = rk u := by unfold updN; rw [if_neg (fun q => hone q.symm)]
    rw [e1, e2, hoo, e3]
    exact ⟨hp, hto, Or.inl hu, hk u hu, hr⟩
  · have hTv : T v := hv.elim id (fun e => absurd e hvo)
    obtain ⟨q1, q2, q3, q4, q5⟩ := h.2.2 v hTv hva
    have e1 : updN by_ (opp N p u) p v = by_ v := by simp [updN, hvo]
    have e2 : updN rk (opp N p u) k v = rk v := by simp [updN, hvo]
    have e3 : updN rk (opp N p u) k (opp N (by_ v) v) = rk (opp N (by_ v) v) := by
      unfold updN
      rw [if_neg (fun q => hn (by rw [← q]; exact q3))]
    rw [e1, e2, e3]
    exact ⟨q1, q2, Or.inl q3, q4, q5⟩
/-- a wire more, drawn back from the end v: so far -/
def PW (N : Net) (cp : Nat → Nat) (f : Nat → Int) (a b : Nat) (T : Nat → Prop) (by_ rk : Nat → Nat) (v : Nat) (f' : Nat → Int) : Prop := T v ∧ FLw N cp f' ∧ (∀ w, T w → w ≠ a → rk w ≤ rk v → f' (by_ w) = f (by_ w)) ∧ ∀ S : Nat → Bool, phi N S f' = phi N S f + io (S v) - io (S b)
theorem PW.s {N : Net} {cp : Nat → Nat} {f : Nat → Int} {a b : Nat} {T : Nat → Prop} {by_ rk : Nat → Nat} (hf : FLw N cp f) (hb : T b) : PW N cp f a b T by_ rk b f := ⟨hb, hf, fun _ _ _ _ => rfl, fun S => by omega⟩
theorem PW.step {N : Net} (hN : netOK N) {cp : Nat → Nat} {f f' : Nat → Int} {a b v : Nat} {T : Nat → Prop} {by_ rk : Nat → Nat} (hT : Tre N cp f a T by_ rk) (h : PW N cp f a b T by_ rk v f') (hva : v ≠ a) : PW N cp f a b T by_ rk (opp N (by_ v) v) (updI f' (by_ v) (f' (by_ v) + if nB N (by_ v) = v then 1 else -1)) ∧ rk (opp N (by_ v) v) < rk v := by
  obtain ⟨h1, h2, h3, h4⟩ := h
  obtain ⟨q1, q2, q3, q4, q5⟩ := hT.2.2 v h1 hva
  have hAB := (hN.2 (by_ v) q1).2.2.1
  have hv := h3 v h1 hva (Nat.le_refl _)
  have hb := h2 (by_ v) q1
  refine ⟨⟨q3, fun p hp => ?_, fun w hw hwa hrk => ?_, fun S => ?_⟩, q4⟩
  · by_cases hpp : p = by_ v
    · subst hpp
      have e : updI f' (by_ v) (f' (by_ v) + if nB N (by_ v) = v then 1 else -1) (by_ v) = f' (by_ v) + if nB N (by_ v) = v then 1 else -1 := by simp [updI]
      rw [e]
      unfold hasR at q5
      by_cases hBv : nB N (by_ v) = v
      · rw [if_pos hBv]
        rw [opp_B hN q1 hBv, if_pos rfl] at q5
        omega
      · rw [if_neg hBv]
        have hAv : nA N (by_ v) = v := q2.elim id (fun e => absurd e hBv)
        rw [opp_A hAv, if_neg hAB] at q5
        omega
    · have e : updI f' (by_ v) (f' (by_ v) + if nB N (by_ v) = v then 1 else -1) p = f' p := by simp [updI, hpp]
      rw [e]
      exact h2 p hp
  · have hne : by_ w ≠ by_ v := fun he => by
      obtain ⟨r1, r2, r3, r4, r5⟩ := hT.2.2 w hw hwa
      rw [he] at r2 r4
      have hwv : w ≠ v := fun q => by rw [q] at hrk; omega
      have hwu : w = opp N (by_ v) v := by
        rcases q2 with q2 | q2
        · rw [opp_A q2]
          rcases r2 with r2 | r2
          · exact absurd (r2.symm.trans q2) hwv
          · exact r2.symm
        · rw [opp_B hN q1 q2]
          rcases r2 with r2 | r2
          · exact r2.symm
          · exact absurd (r2.symm.trans q2) hwv
      have hov : opp N (by_ v) w = v := by rw [hwu]; exact opp2 hN q1 q2
      rw [hov] at r4
      rw [← hwu] at q4
      omega
    have e : updI f' (by_ v) (f' (by_ v) + if nB N (by_ v) = v then 1 else -1) (by_ w) = f' (by_ w) := by simp [updI, hne]
    rw [e]
    exact h3 w hw hwa (by omega)
  · rw [phi_upd q1, h4 S]
    by_cases hBv : nB N (by_ v) = v
    · rw [if_pos hBv, opp_B hN q1 hBv, hBv]
      omega
    · have hAv : nA N (by_ v) = v := q2.elim id (fun e => absurd e hBv)
      rw [if_neg hBv, opp_A hAv, hAv]
      omega
theorem PW.fin {N : Net} {cp : Nat → Nat} {f f' : Nat → Int} {a b : Nat} {T : Nat → Prop} {by_ rk : Nat → Nat} (h : PW N cp f a b T by_ rk a f') {v : Int} (hv : VI N a b f v) : FLw N cp f' ∧ VI N a b f' (v + 1) := by
  refine ⟨h.2.1, fun S s1 s2 => ?_⟩
  rw [h.2.2.2 S, hv S s1 s2, s1, s2]
  show v + 1 - 0 = v + 1
  omega
/-- no way on, and b was not come to: the flow is the greatest -/
theorem mx_stop {N : Net} {cp : Nat → Nat} {f : Nat → Int} {a b v : Nat} (hf : FLw N cp f) (hv : VI N a b f v) {T : Nat → Prop} (ha : T a) (hb : ¬ T b) (hcl : ∀ p, p < N.1 → (T (nA N p) → ¬ T (nB N p) → ¬ f p < cp p) ∧ (T (nB N p) → ¬ T (nA N p) → ¬ -f p < cp p)) : IsMx N cp a b v := by
  classical
  refine ⟨⟨fun x => decide (T x), decide_eq_true ha, decide_eq_false hb, ?_⟩, f, hf, hv⟩
  have h1 : phi N (fun x => decide (T x)) f = cutc N cp (fun x => decide (T x)) := phi_eq (fun p hp => by
    have hb := hf p hp
    obtain ⟨c1, c2⟩ := hcl p hp
    refine ⟨fun q1 q2 => ?_, fun q1 q2 => ?_⟩
    · have := c1 (of_decide_eq_true q1) (of_decide_eq_false q2); omega
    · have := c2 (of_decide_eq_true q1) (of_decide_eq_false q2); omega)
  rw [← h1]
  exact hv _ (decide_eq_true ha) (decide_eq_false hb)
theorem mx_64 {N : Net} (hN : N.1 ≤ 16) {cp : Nat → Nat} (hc : ∀ p, cp p ≤ 4) {f : Nat → Int} {a b : Nat} (hab : a ≠ b) (hf : FLw N cp f) (hv : VI N a b f ((64 : Nat) : Int)) : IsMx N cp a b 64 := by
  refine ⟨⟨fun x => decide (x = a), by simp, by simp; exact fun q => hab q.symm, ?_⟩, f, hf, hv⟩
  have h1 := phi_le hf (fun x => decide (x = a))
  rw [hv (fun x => decide (x = a)) (by simp) (by simp; exact fun q => hab q.symm)] at h1
  have h2 := cut64 hN hc (fun x => decide (x = a))
  omega
theorem vi_64 {N : Net} (hN : N.1 ≤ 16) {cp : Nat → Nat} (hc : ∀ p, cp p ≤ 4) {f : Nat → Int} {a b v : Nat} (hab : a ≠ b) (hf : FLw N cp f) (hv : VI N a b f v) : v ≤ 64 := by
  have h1 := phi_le hf (fun x => decide (x = a))
  rw [hv (fun x => decide (x = a)) (by simp) (by simp; exact fun q => hab q.symm)] at h1
  have h2 := cut64 hN hc (fun x => decide (x = a))
  omega
theorem bm32 {z : Int} (h1 : -100 ≤ z) (h2 : z ≤ 100) : z.bmod (2 ^ 32) = z := by
  rw [Int.bmod_def]
  have e : ((2 ^ 32 : Nat) : Int) = 4294967296 := by decide
  rw [e]
  split <;> omega
theorem ti_add {x : Int32} {z d : Int} (hx : x.toInt = z) (h1 : -50 ≤ z) (h2 : z ≤ 50) {y : Int32} (hy : y.toInt = d) (h3 : -50 ≤ d) (h4 : d ≤ 50) : (x + y).toInt = z + d := by
  rw [Int32.toInt_add, hx, hy]
  exact bm32 (by omega) (by omega)
theorem ti_neg {x : Int32} {z : Int} (hx : x.toInt = z) (h1 : -50 ≤ z) (h2 : z ≤ 50) : (-x).toInt = -z := by
  rw [Int32.toInt_neg, hx]
  exact bm32 (by omega) (by omega)
theorem ti_le {x : Int32} {z : Int} (hx : x.toInt = z) {k : Nat} (hk : k < 2 ^ 31) : nI k ≤ x ↔ ¬ z < k := by
  rw [Int32.le_iff_toInt_le, nI_toInt hk, hx]
  omega
def capF (sh : Int32) (tk : Nat) (h : Nat → Nat) (p : Nat) : Nat := if bt sh p = true then 0 else tk - h p
theorem capF_4 {sh : Int32} {tk : Nat} (htk : tk ≤ 4) (h : Nat → Nat) (p : Nat) : capF sh tk h p ≤ 4 := by unfold capF; split <;> omega
theorem c8b_add {x : Int32} {v : Nat} (hv : v < 8) (hb : ¬ bt x v = true) : c8b (x ||| sb (nI v)) = c8b x + 1 := by
  have hb' : bt x v = false := by simpa using hb
  have e : ∀ i, b1 (bt (x ||| sb (nI v)) i) = b1 (bt x i) + if i = v then 1 else 0 := fun i => by
    rw [b_or, b_sb (by omega)]
    by_cases hi : i = v
    · subst hi; rw [hb']; simp [b1]
    · simp [hi]
  show b1 (bt (x ||| sb (nI v)) 0) + b1 (bt (x ||| sb (nI v)) 1) + b1 (bt (x ||| sb (nI v)) 2) + b1 (bt (x ||| sb (nI v)) 3) + b1 (bt (x ||| sb (nI v)) 4) + b1 (bt (x ||| sb (nI v)) 5) + b1 (bt (x ||| sb (nI v)) 6) + b1 (bt (x ||| sb (nI v)) 7) = b1 (bt x 0) + b1 (bt x 1) + b1 (bt x 2) + b1 (bt x 3) + b1 (bt x 4) + b1 (bt x 5) + b1 (bt x 6) + b1 (bt x 7) + 1
  rw [e, e, e, e, e, e, e, e]
  rcases c8 hv with h | h | h | h | h | h | h | h <;> subst h <;> simp <;> omega
