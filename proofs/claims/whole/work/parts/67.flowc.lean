/-! the class's greatest flow -/
def FV (k : Nat) (g : Sg) (f : Nat → Int) : Prop := ∀ p, p < 16 → (g k p).toInt = f p
theorem FV.u {k : Nat} {g : Sg} {f : Nat → Int} (h : FV k g f) {p : Nat} {x : Int32} {z : Int} (hx : x.toInt = z) : FV k (sgU g k p x) (updI f p z) := fun q hq => by
  by_cases e : q = p
  · subst e; rw [sg_s, hx]; simp [updI]
  · rw [sg_j e, h q hq]; simp [updI, e]
def LdC (N : Net) (sh : Int32) (tk : Nat) (h : Nat → Nat) (g : Sg) : Prop := NC N g ∧ g 1 9 = sh ∧ g 1 10 = nI tk ∧ tk ≤ 4 ∧ (∀ p, p < 16 → g 8 p = nI (h p)) ∧ ∀ p, h p ≤ tk
theorem LdC.of {N : Net} {sh : Int32} {tk : Nat} {h : Nat → Nat} {g g' : Sg} (hL : LdC N sh tk h g) (hf : ∀ c, c ≠ 17 → c ≠ 18 → c ≠ 19 → g' c = g c) : LdC N sh tk h g' := by
  obtain ⟨h1, h2, h3, h4, h5, h6⟩ := hL
  have e := fun c (a1 : c ≠ 17) (a2 : c ≠ 18) (a3 : c ≠ 19) => hf c a1 a2 a3
  exact ⟨h1.of (hf 1 (by decide) (by decide) (by decide)) (hf 3 (by decide) (by decide) (by decide)) (hf 4 (by decide) (by decide) (by decide)) (hf 5 (by decide) (by decide) (by decide)) (hf 6 (by decide) (by decide) (by decide)), by rw [hf 1 (by decide) (by decide) (by decide)]; exact h2, by rw [hf 1 (by decide) (by decide) (by decide)]; exact h3, h4, fun p hp => by rw [hf 8 (by decide) (by decide) (by decide)]; exact h5 p hp, h6⟩
theorem Sf_hasRoom {N : Net} {sh : Int32} {tk : Nat} {h : Nat → Nat} {f : Nat → Int} {g : Sg} {p u : Nat} {Q : Int32 → Sg → Prop} (hL : LdC N sh tk h g) (hV : FV 17 g f) (hf : FLw N (capF sh tk h) f) (hp : p < N.1) (hu : u < 8) (h1 : hasR N (capF sh tk h) f p u → Q 1 g) (h0 : ¬ hasR N (capF sh tk h) f p u → Q 0 g) : Cf_hasRoom (nI p) (nI u) g Q := by
  obtain ⟨hN, h9, h10, htk, h8, hht⟩ := hL
  have h16 := hN.1.1
  have hq := hN.1.2 p hp
  have hb := hf p hp
  have hhp := hht p
  have i16 : vp_in (nI p) 16 := vp_in_nI (by omega) (by omega)
  have hc4 := capF_4 (sh := sh) htk h p
  refine Vf_hasRoom ?_
  rw [h9, tbb_n _ (show p < 32 by omega), nI_clamp (show p < 2 ^ 31 by omega), (hN.2.2 p hp).1, h10, h8 p (by omega), pk_sub hhp, nI_eq (by omega) (by omega)]
  refine ⟨fun hs => h0 (fun hr => ?_), fun hs => ⟨i16, fun hA => ⟨i16, i16, ?_⟩, fun hA => ⟨i16, i16, ?_⟩⟩⟩
  · unfold hasR at hr
    have e : capF sh tk h p = 0 := by unfold capF; rw [if_pos hs]
    rw [e] at hr hb
    split at hr <;> omega
  · have e : capF sh tk h p = tk - h p := by unfold capF; rw [if_neg hs]
    rw [ti_le (hV p (by omega)) (by omega)]
    unfold hasR at h1 h0
    rw [if_pos hA, e] at h1 h0
    exact ⟨h0, fun hx => h1 (Classical.not_not.mp hx)⟩
  · have e : capF sh tk h p = tk - h p := by unfold capF; rw [if_neg hs]
    rw [ti_le (ti_neg (hV p (by omega)) (by omega) (by omega)) (by omega)]
    unfold hasR at h1 h0
    rw [if_neg hA, e] at h1 h0
    exact ⟨h0, fun hx => h1 (Classical.not_not.mp hx)⟩
def BF (N : Net) (cp : Nat → Nat) (f : Nat → Int) (a : Nat) (g : Sg) (x : Int32) (e : Nat) (qv by_ rk : Nat → Nat) : Prop := Tre N cp f a (fun v => bt x v = true) by_ rk ∧ (∀ v, bt x v = true → rk v < e) ∧ c8b x = e ∧ (∀ v, bt x v = true → v ≠ a → g 18 v = nI (by_ v)) ∧ (∀ j, j < e → g 19 j = nI (qv j) ∧ bt x (qv j) = true) ∧ (∀ v, bt x v = true → ∃ j, j < e ∧ qv j = v)
theorem c8b_sb {a : Nat} (ha : a < 8) : c8b (sb (nI a)) = 1 := by
  have h := c8b_add (x := 0) ha (by rw [b_0]; decide)
  have e : (0 : Int32) ||| sb (nI a) = sb (nI a) := b_ext (fun i _ => by rw [b_or, b_0]; rfl)
  rw [e] at h
  rw [h]
  rfl
theorem BF.add {N : Net} {cp : Nat → Nat} {f : Nat → Int} {a : Nat} {g : Sg} {x : Int32} {e : Nat} {qv by_ rk : Nat → Nat} (h : BF N cp f a g x e qv by_ rk) (hN : netOK N) {p u : Nat} (hp : p < N.1) (hu : bt x u = true) (ht : tch N p u) (hr : hasR N cp f p u) (hn : ¬ bt x (opp N p u) = true) :
    BF N cp f a (sgU (sgU g 18 (opp N p u) (nI p)) 19 e (nI (opp N p u))) (x ||| sb (nI (opp N p u))) (e + 1) (updN qv e (opp N p u)) (updN by_ (opp N p u) p) (updN rk (opp N p u) e) := by
  obtain ⟨b1, b2, b3, b4, b5, b6⟩ := h
  have hol := opp_lt hN u hp
  have hbt : ∀ v, bt (x ||| sb (nI (opp N p u))) v = true ↔ (bt x v = true ∨ v = opp N p u) := fun v => by rw [b_or, b_sb (by omega)]; simp
  have hT := b1.add hN b2 hp hu ht hr hn
  have hfe : (fun v => bt (x ||| sb (nI (opp N p u))) v = true) = (fun v => bt x v = true ∨ v = opp N p u) := by funext v; exact propext (hbt v)
  refine ⟨by rw [hfe]; exact hT, fun v hv => ?_, by rw [c8b_add hol hn, b3], fun v hv hva => ?_, fun j hj => ?_, fun v hv => ?_⟩
  · unfold updN
    split
    · omega
    · rename_i hne
      have := b2 v (((hbt v).mp hv).elim id (fun q => absurd q hne))
      omega
  · rw [sg_k (by decide)]
    by_cases hvo : v = opp N p u
    · rw [hvo, sg_s]; simp [updN]
    · rw [sg_j hvo, b4 v (((hbt v).mp hv).elim id (fun q => absurd q hvo)) hva]; simp [updN, hvo]
  · by_cases hje : j = e
    · rw [hje, sg_s]
      have e1 : updN qv e (opp N p u) e = opp N p u := by simp [updN]
      rw [e1]
      exact ⟨rfl, (hbt _).mpr (Or.inr rfl)⟩
    · have e1 : updN qv e (opp N p u) j = qv j := by simp [updN, hje]
      rw [sg_j hje, sg_k (by decide), e1]
      have := b5 j (by omega)
      exact ⟨this.1, (hbt _).mpr (Or.inl this.2)⟩
  · rcases (hbt v).mp hv with hv | hv
    · obtain ⟨j, hj, hjv⟩ := b6 v hv
      exact ⟨j, by omega, by unfold updN; rw [if_neg (by omega)]; exact hjv⟩
    · exact ⟨e, by omega, by rw [hv]; simp [updN]⟩
theorem Sf_seekRoom {N : Net} {sh : Int32} {tk : Nat} {h : Nat → Nat} {f : Nat → Int} {g0 : Sg} {a b v : Nat} {Q : Int32 → Sg → Prop} (hL : LdC N sh tk h g0) (hV : FV 17 g0 f) (hf : FLw N (capF sh tk h) f) (hvi : VI N a b f v) (ha : a < 8) (hb : b < 8) (hab : a ≠ b)
    (hq1 : ∀ (g' : Sg) (x : Int32) (by_ rk : Nat → Nat), (∀ c, c ≠ 18 → c ≠ 19 → g' c = g0 c) → Tre N (capF sh tk h) f a (fun v => bt x v = true) by_ rk → bt x b = true → (∀ v, bt x v = true → rk v < 8) → (∀ v, bt x v = true → v ≠ a → g' 18 v = nI (by_ v)) → Q 1 g')
    (hq0 : ∀ g', (∀ c, c ≠ 18 → c ≠ 19 → g' c = g0 c) → IsMx N (capF sh tk h) a b v → Q 0 g') : Cf_seekRoom (nI a) (nI b) g0 Q := by
  have hN := hL.1
  have h16 := hN.1.1
  -- what ends it
  have fin : ∀ (g : Sg) (x : Int32) (e : Nat) (qv by_ rk : Nat → Nat), (∀ c, c ≠ 18 → c ≠ 19 → g c = g0 c) → BF N (capF sh tk h) f a g x e qv by_ rk → (bt x b = true ∨ ∀ j, j < e → ∀ p, p < N.1 → tch N p (qv j) → hasR N (capF sh tk h) f p (qv j) → bt x (opp N p (qv j)) = true) → bP (tbb x (nI b) = true) &&& 1 = bP (tbb x (nI b) = true) ∧ Q (bP (tbb x (nI b) = true)) g := by
    intro g x e qv by_ rk hfr hB hend
    obtain ⟨b1, b2, b3, b4, b5, b6⟩ := hB
    have he8 := c8b_8 x
    have etb := tbb_n x (show b < 32 by omega)
    by_cases hbt : bt x b = true
    · rw [bP_t (show tbb x (nI b) = true by rw [etb]; exact hbt)]
      exact ⟨by decide, hq1 g x by_ rk hfr b1 hbt (fun w hw => by have := b2 w hw; omega) b4⟩
    · rw [bP_f (show ¬ tbb x (nI b) = true by rw [etb]; exact hbt)]
      refine ⟨by decide, hq0 g hfr (mx_stop (T := fun v => bt x v = true) hf hvi b1.1 hbt (fun p hp => ?_))⟩
      have hcl := hend.resolve_left hbt
      have hAB := (hN.1.2 p hp).2.2.1
      refine ⟨fun hA hB' hlt => ?_, fun hB' hA hlt => ?_⟩
      · obtain ⟨j, hj, hjv⟩ := b6 _ hA
        have := hcl j hj p hp (by rw [hjv]; exact Or.inl rfl) (by unfold hasR; rw [hjv, if_pos rfl]; exact hlt)
        rw [hjv, opp_A rfl] at this
        exact hB' this
      · obtain ⟨j, hj, hjv⟩ := b6 _ hB'
        have := hcl j hj p hp (by rw [hjv]; exact Or.inr rfl) (by unfold hasR; rw [hjv, if_neg hAB]; exact hlt)
        rw [hjv, opp_B hN.1 hp rfl] at this
        exact hA this
  have outer : ∀ (d i : Nat) (g : Sg) (x : Int32) (e : Nat) (qv by_ rk : Nat → Nat), i + d = 8 → i ≤ e → (∀ c, c ≠ 18 → c ≠ 19 → g c = g0 c) → BF N (capF sh tk h) f a g x e qv by_ rk → (∀ j, j < i → ∀ p, p < N.1 → tch N p (qv j) → hasR N (capF sh tk h) f p (qv j) → bt x (opp N p (qv j)) = true) → Hf_seekRoom_26 (nI b) x (nI e) (nI i) g Q := by
    intro d
    induction d with
    | zero =>
      intro i g x e qv by_ rk hi hie hfr hB hcl
      have hi8 : i = 8 := by omega
      have he8 := c8b_8 x
      have hec := hB.2.2.1
      refine Vf_seekRoom_26 (brT ?_ (fin g x e qv by_ rk hfr hB (Or.inr (fun j hj => hcl j (by omega)))))
      rw [hi8]; decide
    | succ d ih =>
      intro i g x e qv by_ rk hi hie hfr hB hcl
      have he8 := c8b_8 x
      have hec := hB.2.2.1
      refine Vf_seekRoom_26 (brF (fun hx => ?_) ⟨fun hx => ?_, fun hx => ?_⟩)
      · have : 8 ≤ i := (nI_leI (a := 8) (b := i) (by omega) (by omega)).mp hx
        omega
      · have : e ≤ i := (nI_leI (by omega) (by omega)).mp hx
        exact fin g x e qv by_ rk hfr hB (Or.inr (fun j hj => hcl j (by omega)))
      · have hie' : i < e := by
          rcases Nat.lt_or_ge i e with hl | hl
          · exact hl
          · exact absurd (nI_le hl (by omega)) hx
        rw [tbb_n _ (show b < 32 by omega)]
        refine ⟨fun hbt => ?_, fun hbt => ⟨vp_in_nI (by omega) (by omega), ?_⟩⟩
        · have := fin g x e qv by_ rk hfr hB (Or.inl hbt)
          rw [tbb_n _ (show b < 32 by omega)] at this
          exact this
        · rw [nI_clamp (show i < 2 ^ 31 by omega), (hB.2.2.2.2.1 i hie').1]
          have hqi := (hB.2.2.2.2.1 i hie').2
          have inner : ∀ (c p : Nat) (g : Sg) (x : Int32) (e : Nat) (qv' by_ rk : Nat → Nat), p + c = N.1 → i < e → qv' i = qv i → (∀ c, c ≠ 18 → c ≠ 19 → g c = g0 c) → BF N (capF sh tk h) f a g x e qv' by_ rk → (∀ j, j < i → ∀ p, p < N.1 → tch N p (qv' j) → hasR N (capF sh tk h) f p (qv' j) → bt x (opp N p (qv' j)) = true) → (∀ q, q < p → tch N q (qv i) → hasR N (capF sh tk h) f q (qv i) → bt x (opp N q (qv i)) = true) → Hf_seekRoom_60 (nI b) x (nI e) (nI i) (nI (qv i)) (nI p) g Q := by
            intro c
            induction c with
            | zero =>
              intro p g x e qv' by_ rk hp hie hqe hfr hB hcl hin
              have hpn : p = N.1 := by omega
              refine Vf_seekRoom_60 ?_
              rw [hfr 1 (by decide) (by decide), hN.2.1, hpn, nI_1]
              refine brT (nI_le (Nat.le_refl _) (by omega)) (ih (i + 1) g x e qv' by_ rk (by omega) (by omega) hfr hB (fun j hj q hq ht hr => ?_))
              by_cases hji : j = i
              · rw [hji, hqe] at ht hr ⊢
                exact hin q (by omega) ht hr
              · exact hcl j (by omega) q hq ht hr
            | succ c ih2 =>
              intro p g x e qv' by_ rk hp hie hqe hfr hB hcl hin
              have hpn : p < N.1 := by omega
              have i16 : vp_in (nI p) 16 := vp_in_nI (by omega) (by omega)
              have hN3 := hN.2.2 p hpn
              have hq3 := hN.1.2 p hpn
              have hqv := (hB.2.2.2.2.1 i hie).2
              rw [hqe] at hqv
              have hq8 : qv i < 8 := hB.1.2.1 _ hqv
              have hLg : LdC N sh tk h g := hL.of (fun c _ c18 c19 => hfr c c18 c19)
              have hVg : FV 17 g f := fun q hq => by rw [hfr 17 (by decide) (by decide)]; exact hV q hq
              have next : (tch N p (qv i) → hasR N (capF sh tk h) f p (qv i) → bt x (opp N p (qv i)) = true) → Hf_seekRoom_60 (nI b) x (nI e) (nI i) (nI (qv i)) (nI (p + 1)) g Q := fun hc => ih2 (p + 1) g x e qv' by_ rk (by omega) hie hqe hfr hB hcl (fun q hq ht hr => by
                by_cases hqp : q = p
                · rw [hqp] at ht hr ⊢; exact hc ht hr
                · exact hin q (by omega) ht hr)
              refine Vf_seekRoom_60 ?_
              rw [hfr 1 (by decide) (by decide), hN.2.1, hfr 3 (by decide) (by decide), hfr 4 (by decide) (by decide), nI_clamp (show p < 2 ^ 31 by omega), hN3.1, hN3.2.1, nI_1 p]
              refine brF (nI_ge hpn (by omega)) ⟨i16, ?_⟩
              rw [nI_eq (show nA N p < 2 ^ 31 by omega) (show qv i < 2 ^ 31 by omega), nI_eq (show nB N p < 2 ^ 31 by omega) (show qv i < 2 ^ 31 by omega)]
              refine ⟨fun ht => ?_, fun ht => next (fun ht' => absurd ht' ht)⟩
              refine Sf_hasRoom hLg hVg hf hpn hq8 (fun hr => br1 ⟨i16, ?_⟩) (fun hr => br0 (next (fun _ hr' => absurd hr' hr)))
              rw [hfr 3 (by decide) (by decide), hfr 4 (by decide) (by decide), hN3.1, hN3.2.1]
              have eo : (if nA N p = qv i then nI (nB N p) else nI (nA N p)) = nI (opp N p (qv i)) := by
                unfold opp; split <;> rfl
              have eo2 : (if nI (nA N p) = nI (qv i) then nI (nB N p) else nI (nA N p)) = nI (opp N p (qv i)) := by
                rw [if_nI (by omega) (by omega)]; rfl
              rw [eo2]
              have hol := opp_lt hN.1 (qv i) hpn
              rw [tbb_n _ (show opp N p (qv i) < 32 by omega), nI_clamp (show opp N p (qv i) < 2 ^ 31 by omega)]
              refine ⟨fun hbo => next (fun _ _ => hbo), fun hbo => ?_⟩
              have hadd := hB.add hN.1 hpn hqv ht hr hbo
              have hec' := hadd.2.2.1
              have he8' := c8b_8 (x ||| sb (nI (opp N p (qv i))))
              refine ⟨fun h8 => ?_, fun h8 => ⟨vp_in_nI (by omega) (by omega), vp_in_nI (by omega) (by omega), ?_⟩⟩
              · have : 8 ≤ e := (nI_leI (a := 8) (by omega) (by omega)).mp h8
                omega
              · rw [nI_clamp (show e < 2 ^ 31 by omega), nI_1 e]
                have hbt : ∀ w, bt x w = true → bt (x ||| sb (nI (opp N p (qv i)))) w = true := fun w hw => by rw [b_or, hw]; rfl
                have hqj : ∀ j, j < e → updN qv' e (opp N p (qv i)) j = qv' j := fun j hj => by unfold updN; rw [if_neg (by omega)]
                refine ih2 (p + 1) _ _ (e + 1) _ _ _ (by omega) (by omega) (by rw [hqj i hie]; exact hqe) (fun c c18 c19 => by funext j; rw [sg_k c19, sg_k c18, hfr c c18 c19]) hadd (fun j hj q hq ht' hr' => ?_) (fun q hq ht' hr' => ?_)
                · rw [hqj j (by omega)] at ht' hr' ⊢
                  exact hbt _ (hcl j hj q hq ht' hr')
                · by_cases hqp : q = p
                  · rw [hqp, b_or, b_sb (by omega)]; simp
                  · exact hbt _ (hin q (by omega) ht' hr')
          exact inner N.1 0 g x e qv by_ rk (by omega) hie' rfl hfr hB hcl (fun q hq => absurd hq (by omega))
  refine Vf_seekRoom (Sk_fill (n := 8) rfl (by omega) ?_)
  have zk : ∀ k', k' ≠ 18 → sgF g0 18 8 (-1) k' = g0 k' := fun k' hk => by unfold sgF; exact sgC_k hk
  have hbs : ∀ w, bt (sb (nI a)) w = true ↔ w = a := fun w => by rw [b_sb (by omega)]; simp
  refine outer 8 0 _ (sb (nI a)) 1 (fun _ => a) (fun _ => 0) (fun _ => 0) (by omega) (by omega) (fun c c18 c19 => by funext j; rw [sg_k c19, zk c c18]) ⟨⟨(hbs a).mpr rfl, fun w hw => by rw [(hbs w).mp hw]; exact ha, fun w hw hwa => absurd ((hbs w).mp hw) hwa⟩, fun w _ => Nat.zero_lt_one, c8b_sb ha, fun w hw hwa => absurd ((hbs w).mp hw) hwa, fun j hj => ?_, fun w hw => ⟨0, by omega, ((hbs w).mp hw).symm⟩⟩ (fun j hj => absurd hj (by omega))
  have hj0 : j = 0 := by omega
  rw [hj0, sg_s]
  exact ⟨rfl, (hbs a).mpr rfl⟩
theorem Sf_push {N : Net} {sh : Int32} {tk : Nat} {h : Nat → Nat} {f : Nat → Int} {g0 : Sg} {a b v : Nat} {x : Int32} {by_ rk : Nat → Nat} {Q : Sg → Prop} (hL : LdC N sh tk h g0) (hV : FV 17 g0 f) (hf : FLw N (capF sh tk h) f) (hvi : VI N a b f v) (ha : a < 8)
    (hT : Tre N (capF sh tk h) f a (fun v => bt x v = true) by_ rk) (hbx : bt x b = true) (hrk : ∀ v, bt x v = true → rk v < 8) (h18 : ∀ v, bt x v = true → v ≠ a → g0 18 v = nI (by_ v))
    (hq : ∀ (g' : Sg) (f' : Nat → Int), (∀ c, c ≠ 17 → g' c = g0 c) → FV 17 g' f' → FLw N (capF sh tk h) f' → VI N a b f' ((v : Int) + 1) → Q g') : Cf_push (nI a) (nI b) g0 Q := by
  have hN := hL.1
  have h16 := hN.1.1
  have htk := hL.2.2.2.1
  have loop : ∀ (d i u : Nat) (g : Sg) (f' : Nat → Int), i + d = 8 → rk u < d → (∀ c, c ≠ 17 → g c = g0 c) → FV 17 g f' → PW N (capF sh tk h) f a b (fun v => bt x v = true) by_ rk u f' → Hf_push_5 (nI a) (nI u) (nI i) g Q := by
    intro d
    induction d with
    | zero => intro i u g f' _ hr; omega
    | succ d ih =>
      intro i u g f' hi hr hfr hV' hP
      have hu8 : u < 8 := hT.2.1 u hP.1
      refine Vf_push_5 (brF (fun hx => ?_) ⟨fun hua => ?_, fun hua => ⟨vp_in_nI (by omega) (by omega), ?_⟩⟩)
      · have : 8 ≤ i := (nI_leI (a := 8) (b := i) (by omega) (by omega)).mp hx
        omega
      · have : u = a := (nI_eq (by omega) (by omega)).mp hua
        rw [this] at hP
        obtain ⟨p1, p2⟩ := hP.fin hvi
        exact hq g f' hfr hV' p1 p2
      · have hne : u ≠ a := fun q => hua (by rw [q])
        obtain ⟨q1, q2, q3, q4, q5⟩ := hT.2.2 u hP.1 hne
        have hN3 := hN.2.2 _ q1
        have hq3 := hN.1.2 _ q1
        have hfb := hP.2.1 _ q1
        have hc4 := capF_4 (sh := sh) htk h (by_ u)
        obtain ⟨hP', hrk'⟩ := hP.step hN.1 hT hne
        rw [nI_clamp (show u < 2 ^ 31 by omega), hfr 18 (by decide), h18 u hP.1 hne, nI_clamp (show by_ u < 2 ^ 31 by omega), hfr 3 (by decide), hfr 4 (by decide), hN3.1, hN3.2.1]
        have i16 : vp_in (nI (by_ u)) 16 := vp_in_nI (by omega) (by omega)
        have eo2 : (if nI (nA N (by_ u)) = nI u then nI (nB N (by_ u)) else nI (nA N (by_ u))) = nI (opp N (by_ u) u) := by
          rw [if_nI (by omega) (by omega)]; rfl
        rw [eo2, nI_1, nI_eq (show nB N (by_ u) < 2 ^ 31 by omega) (show u < 2 ^ 31 by omega)]
        have hVu := hV' (by_ u) (by omega)
        refine brF (nI_m1 (by omega)) ⟨i16, i16, fun hB => ⟨i16, i16, ?_⟩, fun hB => ⟨i16, i16, ?_⟩⟩
        · rw [if_pos hB] at hP'
          exact ih (i + 1) _ _ _ (by omega) (by omega) (fun c hc => by funext j; rw [sg_k hc, hfr c hc]) (hV'.u (ti_add hVu (by omega) (by omega) (show (1 : Int32).toInt = 1 by decide) (by omega) (by omega))) hP'
        · rw [if_neg hB] at hP'
          exact ih (i + 1) _ _ _ (by omega) (by omega) (fun c hc => by funext j; rw [sg_k hc, hfr c hc]) (hV'.u (ti_add hVu (by omega) (by omega) (show (-1 : Int32).toInt = -1 by decide) (by omega) (by omega))) hP'
  exact Vf_push (loop 8 0 b g0 f (by omega) (hrk b hbx) (fun _ _ => rfl) hV (PW.s hf hbx))
theorem Sf_greatest {N : Net} {sh : Int32} {tk : Nat} {h : Nat → Nat} {g0 : Sg} {a b : Nat} {Q : Int32 → Sg → Prop} (hL : LdC N sh tk h g0) (ha : a < 8) (hb : b < 8) (hab : a ≠ b) (hq : ∀ g', (∀ c, c ≠ 17 → c ≠ 18 → c ≠ 19 → g' c = g0 c) → Q (nI (mxf N (capF sh tk h) a b)) g') : Cf_greatest (nI a) (nI b) g0 Q := by
  have h16 := hL.1.1.1
  have htk := hL.2.2.2.1
  have loop : ∀ (d s : Nat) (g : Sg) (f : Nat → Int), s + d = 64 → (∀ c, c ≠ 17 → c ≠ 18 → c ≠ 19 → g c = g0 c) → FV 17 g f → FLw N (capF sh tk h) f → VI N a b f s → Hf_greatest_10 (nI a) (nI b) (nI s) g Q := by
    intro d
    induction d with
    | zero =>
      intro s g f hs hfr hV hf hvi
      have hs64 : s = 64 := by omega
      subst hs64
      have hm := mxf_of (mx_64 h16 (capF_4 htk h) hab hf hvi)
      have hz := hq g hfr
      rw [hm] at hz
      exact Vf_greatest_10 (brT (by decide) hz)
    | succ d ih =>
      intro s g f hs hfr hV hf hvi
      refine Vf_greatest_10 (brF (fun hx => ?_) (Sf_seekRoom (hL.of hfr) hV hf hvi ha hb hab (fun g1 x by_ rk hf1 hT hbx hrk h18 => br1 ?_) (fun g1 hf1 hm => br0 ?_)))
      · have : 64 ≤ s := (nI_leI (a := 64) (b := s) (by omega) (by omega)).mp hx
        omega
      · have hfr1 : ∀ c, c ≠ 17 → c ≠ 18 → c ≠ 19 → g1 c = g0 c := fun c c1 c2 c3 => (hf1 c c2 c3).trans (hfr c c1 c2 c3)
        refine Sf_push (hL.of hfr1) (fun p hp => by rw [hf1 17 (by decide) (by decide)]; exact hV p hp) hf hvi ha hT hbx hrk h18 (fun g2 f2 hf2 hV2 hF2 hvi2 => ?_)
        rw [nI_1]
        exact ih (s + 1) g2 f2 (by omega) (fun c c1 c2 c3 => (hf2 c c1).trans (hfr1 c c1 c2 c3)) hV2 hF2 hvi2
      · have hz := hq g1 (fun c c1 c2 c3 => (hf1 c c2 c3).trans (hfr c c1 c2 c3))
        rw [mxf_of hm] at hz
        exact hz
  refine Vf_greatest (Sk_fill (n := 16) rfl (by omega) ?_)
  refine loop 64 0 _ (fun _ => 0) (by omega) (fun c c1 _ _ => by unfold sgF; exact sgC_k c1) (fun p hp => ?_) (FLw.z N _) (VI.z N a b)
  unfold sgF
  rw [sgC_s]
  simp [hp]
