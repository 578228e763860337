/-! the reference's greatest flow -/
def LdM (N : Net) (sh : Int32) (tk : Nat) (h : Nat → Nat) (g : Sg) : Prop := NM N g ∧ g 41 0 = sh ∧ g 41 1 = nI tk ∧ tk ≤ 4 ∧ (∀ p, p < 16 → g 44 p = nI (h p)) ∧ ∀ p, h p ≤ tk
theorem LdM.of {N : Net} {sh : Int32} {tk : Nat} {h : Nat → Nat} {g g' : Sg} (hL : LdM N sh tk h g) (hf : ∀ c, c ≠ 48 → c ≠ 49 → g' c = g c) : LdM N sh tk h g' := by
  obtain ⟨h1, h2, h3, h4, h5, h6⟩ := hL
  exact ⟨h1.of (by rw [hf 34 (by decide) (by decide)]) (hf 40 (by decide) (by decide)), by rw [hf 41 (by decide) (by decide)]; exact h2, by rw [hf 41 (by decide) (by decide)]; exact h3, h4, fun p hp => by rw [hf 44 (by decide) (by decide)]; exact h5 p hp, h6⟩
def MT (N : Net) (cp : Nat → Nat) (f : Nat → Int) (a : Nat) (g : Sg) (x : Int32) (by_ rk : Nat → Nat) : Prop := Tre N cp f a (fun v => bt x v = true) by_ rk ∧ (∀ v, bt x v = true → rk v < c8b x) ∧ (∀ v, bt x v = true → v ≠ a → g 49 v = nI (by_ v))
theorem MT.add {N : Net} {cp : Nat → Nat} {f : Nat → Int} {a : Nat} {g : Sg} {x : Int32} {by_ rk : Nat → Nat} (h : MT N cp f a g x by_ rk) (hN : netOK N) {p u w : Nat} (hp : p < N.1) (hu : bt x u = true) (ht : tch N p u) (hr : hasR N cp f p u) (hw : opp N p u = w) (hn : ¬ bt x w = true) :
    MT N cp f a (sgU g 49 w (nI p)) (x ||| sb (nI w)) (updN by_ w p) (updN rk w (c8b x)) := by
  subst hw
  obtain ⟨b1, b2, b4⟩ := h
  have hol := opp_lt hN u hp
  have hbt : ∀ v, bt (x ||| sb (nI (opp N p u))) v = true ↔ (bt x v = true ∨ v = opp N p u) := fun v => by rw [b_or, b_sb (by omega)]; simp
  have hT := b1.add hN b2 hp hu ht hr hn
  have hfe : (fun v => bt (x ||| sb (nI (opp N p u))) v = true) = (fun v => bt x v = true ∨ v = opp N p u) := by funext v; exact propext (hbt v)
  refine ⟨by rw [hfe]; exact hT, fun v hv => ?_, fun v hv hva => ?_⟩
  · rw [c8b_add hol hn]
    unfold updN
    split
    · omega
    · rename_i hne
      have := b2 v (((hbt v).mp hv).elim id (fun q => absurd q hne))
      omega
  · by_cases hvo : v = opp N p u
    · rw [hvo, sg_s]; simp [updN]
    · rw [sg_j hvo, b4 v (((hbt v).mp hv).elim id (fun q => absurd q hvo)) hva]; simp [updN, hvo]
def clP (N : Net) (cp : Nat → Nat) (f : Nat → Int) (x : Int32) (p : Nat) : Prop := (bt x (nA N p) = true → ¬ bt x (nB N p) = true → ¬ f p < cp p) ∧ (bt x (nB N p) = true → ¬ bt x (nA N p) = true → ¬ -f p < cp p)
theorem Sm_flows {N : Net} {sh : Int32} {tk : Nat} {h : Nat → Nat} {f : Nat → Int} {g0 : Sg} {a b v : Nat} {Q : Int32 → Sg → Prop} (hL : LdM N sh tk h g0) (hV : FV 48 g0 f) (hf : FLw N (capF sh tk h) f) (hvi : VI N a b f v) (ha : a < 8) (hb : b < 8) (hab : a ≠ b)
    (hq1 : ∀ (g' : Sg) (f' : Nat → Int), (∀ c, c ≠ 48 → c ≠ 49 → g' c = g0 c) → FV 48 g' f' → FLw N (capF sh tk h) f' → VI N a b f' ((v : Int) + 1) → Q 1 g')
    (hq0 : ∀ g', (∀ c, c ≠ 48 → c ≠ 49 → g' c = g0 c) → IsMx N (capF sh tk h) a b v → Q 0 g') : Cm_flows (nI a) (nI b) g0 Q := by
  have hN := hL.1
  have h16 := hN.1.1
  have htk := hL.2.2.2.1
  have walk : ∀ (x : Int32) (by_ rk : Nat → Nat), Tre N (capF sh tk h) f a (fun v => bt x v = true) by_ rk → ∀ (d u : Nat) (g : Sg) (f' : Nat → Int), rk u < d → (∀ c, c ≠ 48 → c ≠ 49 → g c = g0 c) → (∀ v, bt x v = true → v ≠ a → g 49 v = nI (by_ v)) → FV 48 g f' → PW N (capF sh tk h) f a b (fun v => bt x v = true) by_ rk u f' → Hm_flows_235 (nI a) (nI u) g Q := by
    intro x by_ rk hT d
    induction d with
    | zero => intro u g f' hr; omega
    | succ d ih =>
      intro u g f' hr hfr h49 hV' hP
      have hu8 : u < 8 := hT.2.1 u hP.1
      refine Vm_flows_235 ⟨fun hua => ?_, fun hua => ⟨vp_in_nI (by omega) (by omega), ?_⟩⟩
      · have : u = a := (nI_eq (by omega) (by omega)).mp hua
        rw [this] at hP
        obtain ⟨p1, p2⟩ := hP.fin hvi
        exact hq1 g f' hfr hV' p1 p2
      · have hne : u ≠ a := fun q => hua (by rw [q])
        obtain ⟨q1, q2, q3, q4, q5⟩ := hT.2.2 u hP.1 hne
        have hNg : NM N g := (hL.of hfr).1
        have hN3 := hNg.2.2 _ q1
        have hq3 := hN.1.2 _ q1
        have hfb := hP.2.1 _ q1
        have hc4 := capF_4 (sh := sh) htk h (by_ u)
        obtain ⟨hP', hrk'⟩ := hP.step hN.1 hT hne
        obtain ⟨-, i1, -, -, v0, v1, -⟩ := ix4 (show by_ u < 16 by omega)
        rw [nI_clamp (show u < 2 ^ 31 by omega), h49 u hP.1 hne, i1, hN3.2.1, nI_clamp (show by_ u < 2 ^ 31 by omega), mOth_t hNg q1 hu8 q2, nI_eq (show nB N (by_ u) < 2 ^ 31 by omega) (show u < 2 ^ 31 by omega)]
        have i16 : vp_in (nI (by_ u)) 16 := vp_in_nI (by omega) (by omega)
        have hVu := hV' (by_ u) (by omega)
        refine ⟨i16, v1, fun hB => ⟨i16, v0, v1, ?_⟩, fun hB => ⟨i16, v0, v1, ?_⟩⟩
        · rw [if_pos hB] at hP'
          exact ih _ _ _ (by omega) (fun c hc c49 => by funext j; rw [sg_k hc, hfr c hc c49]) (fun w hw hwa => by rw [sg_k (by decide)]; exact h49 w hw hwa) (hV'.u (ti_add hVu (by omega) (by omega) (show (1 : Int32).toInt = 1 by decide) (by omega) (by omega))) hP'
        · rw [if_neg hB] at hP'
          exact ih _ _ _ (by omega) (fun c hc c49 => by funext j; rw [sg_k hc, hfr c hc c49]) (fun w hw hwa => by rw [sg_k (by decide)]; exact h49 w hw hwa) (hV'.u (ti_add hVu (by omega) (by omega) (show (-1 : Int32).toInt = -1 by decide) (by omega) (by omega))) hP'
  have inner : ∀ (y : Int32), (∀ (x : Int32) (g : Sg) (by_ rk : Nat → Nat), (∀ c, c ≠ 48 → c ≠ 49 → g c = g0 c) → FV 48 g f → MT N (capF sh tk h) f a g x by_ rk → (∀ i, bt y i = true → bt x i = true) → (x = y → ∀ q, q < N.1 → clP N (capF sh tk h) f y q) → Hm_flows_28 (nI a) (nI b) x y g Q) →
      ∀ (d p : Nat) (x : Int32) (g : Sg) (by_ rk : Nat → Nat), p + d = N.1 → (∀ c, c ≠ 48 → c ≠ 49 → g c = g0 c) → FV 48 g f → MT N (capF sh tk h) f a g x by_ rk → (∀ i, bt y i = true → bt x i = true) → (x = y → ∀ q, q < p → clP N (capF sh tk h) f y q) → Hm_flows_40 (nI a) (nI b) x y (nI p) g Q := by
    intro y hk d
    induction d with
    | zero =>
      intro p x g by_ rk hp hfr hVg hM hyx hcl
      have hpn : p = N.1 := by omega
      refine Vm_flows_40 ?_
      rw [hfr 34 (by decide) (by decide), hN.2.1, hpn]
      rw [hpn] at hcl
      exact brT (nI_le (Nat.le_refl _) (by omega)) (hk x g by_ rk hfr hVg hM hyx hcl)
    | succ d ih =>
      intro p x g by_ rk hp hfr hVg hM hyx hcl
      have hpn : p < N.1 := by omega
      have i16 : vp_in (nI p) 16 := vp_in_nI (by omega) (by omega)
      have hLg := hL.of hfr
      have hN3 := hLg.1.2.2 _ hpn
      have hq3 := hN.1.2 _ hpn
      have hfb := hf p hpn
      have hc4 := capF_4 (sh := sh) htk h p
      have hhp := hL.2.2.2.2.2 p
      obtain ⟨i0, i1, -, -, v0, v1, -⟩ := ix4 (show p < 16 by omega)
      have stay : clP N (capF sh tk h) f x p → Hm_flows_213 (nI a) (nI b) x y (nI p) g Q := fun hc => by
        refine Vm_flows_213 ?_
        rw [nI_1]
        refine ih (p + 1) x g by_ rk (by omega) hfr hVg hM hyx (fun hxy q hq => ?_)
        by_cases hqp : q = p
        · rw [hqp, ← hxy]; exact hc
        · exact hcl hxy q (by omega)
      have more : ∀ (u w : Nat), w < 8 → bt x u = true → tch N p u → hasR N (capF sh tk h) f p u → opp N p u = w → ¬ bt x w = true → Hm_flows_213 (nI a) (nI b) (x ||| sb (nI w)) y (nI p) (sgU g 49 w (nI p)) Q := fun u w hw hu ht hr ho hn => by
        refine Vm_flows_213 ?_
        rw [nI_1]
        have hbw : bt (x ||| sb (nI w)) w = true := by rw [b_or, b_sb (by omega)]; simp
        refine ih (p + 1) _ _ _ _ (by omega) (fun c c48 c49 => by funext j; rw [sg_k c49, hfr c c48 c49]) (fun q hq => by rw [sg_k (by decide)]; exact hVg q hq) (hM.add hN.1 hpn hu ht hr ho hn) (fun i hi => by rw [b_or, hyx i hi]; rfl) (fun hxy => ?_)
        rw [hxy] at hbw
        exact absurd (hyx w hbw) hn
      have s161 : ¬ (bt x (nA N p) = true ∧ ¬ bt x (nB N p) = true ∧ f p < capF sh tk h p) → Hm_flows_161 (nI a) (nI b) x y (nI p) (nI (capF sh tk h p)) (nI (nA N p)) (nI (nB N p)) g Q := fun hno => by
        have c1 : bt x (nA N p) = true → ¬ bt x (nB N p) = true → ¬ f p < capF sh tk h p := fun q1 q2 q3 => hno ⟨q1, q2, q3⟩
        refine Vm_flows_161 ?_
        rw [nI_clamp (show p < 2 ^ 31 by omega), ti_le (ti_neg (hVg p (by omega)) (by omega) (by omega)) (show capF sh tk h p < 2 ^ 31 by omega), tbb_n _ (show nA N p < 32 by omega), tbb_n _ (show nB N p < 32 by omega), nI_clamp (show nA N p < 2 ^ 31 by omega)]
        refine ⟨fun h0 => stay ⟨c1, fun _ _ => ?_⟩, fun h0 => ⟨i16, fun hn => stay ⟨c1, fun _ _ => hn⟩, fun hn => ⟨fun hB => ⟨fun hA => stay ⟨c1, fun _ q => absurd hA q⟩, fun hA => ⟨vp_in_nI (by omega) (by omega), ?_⟩⟩, fun hB => stay ⟨c1, fun q => absurd q hB⟩⟩⟩⟩
        · have : capF sh tk h p = 0 := by
            have := (nI_leI (b := 0) (show capF sh tk h p < 2 ^ 31 by omega) (by omega)).mp h0
            omega
          omega
        · refine more (nB N p) (nA N p) (by omega) hB (Or.inr rfl) ?_ (opp_B hN.1 hpn rfl) hA
          unfold hasR
          rw [if_neg hq3.2.2.1]
          exact Classical.not_not.mp hn
      have s83 : Hm_flows_83 (nI a) (nI b) x y (nI p) (nI (capF sh tk h p)) g Q := by
        refine Vm_flows_83 ?_
        rw [i0, i1, hN3.1, hN3.2.1, nI_clamp (show p < 2 ^ 31 by omega), ti_le (hVg p (by omega)) (show capF sh tk h p < 2 ^ 31 by omega), tbb_n _ (show nA N p < 32 by omega), tbb_n _ (show nB N p < 32 by omega), nI_clamp (show nB N p < 2 ^ 31 by omega)]
        refine ⟨v0, v1, fun h0 => s161 (fun q => ?_), fun h0 => ⟨i16, fun hn => s161 (fun q => hn q.2.2), fun hn => ⟨fun hA => ⟨fun hB => s161 (fun q => q.2.1 hB), fun hB => ⟨vp_in_nI (by omega) (by omega), ?_⟩⟩, fun hA => s161 (fun q => hA q.1)⟩⟩⟩
        · have : capF sh tk h p = 0 := by
            have := (nI_leI (b := 0) (show capF sh tk h p < 2 ^ 31 by omega) (by omega)).mp h0
            omega
          have := q.2.2
          omega
        · refine more (nA N p) (nB N p) (by omega) hA (Or.inl rfl) ?_ (opp_A rfl) hB
          unfold hasR
          rw [if_pos rfl]
          exact Classical.not_not.mp hn
      refine Vm_flows_40 ?_
      rw [hfr 34 (by decide) (by decide), hN.2.1, hLg.2.1, hLg.2.2.1, nI_clamp (show p < 2 ^ 31 by omega), hLg.2.2.2.2.1 p (by omega), pk_sub hhp, tbb_n _ (show p < 32 by omega)]
      refine brF (nI_ge hpn (by omega)) ⟨fun hs => ?_, fun hs => ⟨i16, ?_⟩⟩
      · have e : capF sh tk h p = 0 := by unfold capF; rw [if_pos hs]
        rw [e] at s83
        exact s83
      · have e : capF sh tk h p = tk - h p := by unfold capF; rw [if_neg hs]
        rw [e] at s83
        exact s83
  have outer : ∀ (d : Nat) (x y : Int32) (g : Sg) (by_ rk : Nat → Nat), 8 ≤ c8b x + d → (∀ c, c ≠ 48 → c ≠ 49 → g c = g0 c) → FV 48 g f → MT N (capF sh tk h) f a g x by_ rk → (x = y → ∀ q, q < N.1 → clP N (capF sh tk h) f y q) → Hm_flows_28 (nI a) (nI b) x y g Q := by
    have fin : ∀ (x y : Int32) (g : Sg) (by_ rk : Nat → Nat), x = y → (∀ c, c ≠ 48 → c ≠ 49 → g c = g0 c) → FV 48 g f → MT N (capF sh tk h) f a g x by_ rk → (x = y → ∀ q, q < N.1 → clP N (capF sh tk h) f y q) → Hm_flows_28 (nI a) (nI b) x y g Q := by
      intro x y g by_ rk hxy hfr hVg hM hcl
      refine Vm_flows_28 (brT hxy ?_)
      rw [tbb_n _ (show b < 32 by omega)]
      refine ⟨fun hbt => walk x by_ rk hM.1 (rk b + 1) b g f (by omega) hfr hM.2.2 hVg (PW.s hf hbt), fun hbt => hq0 g hfr (mx_stop (T := fun v => bt x v = true) hf hvi hM.1.1 hbt (fun p hp => ?_))⟩
      have := hcl hxy p hp
      rw [← hxy] at this
      exact this
    intro d
    induction d with
    | zero =>
      intro x y g by_ rk hcd hfr hVg hM hcl
      by_cases hxy : x = y
      · exact fin x y g by_ rk hxy hfr hVg hM hcl
      · refine Vm_flows_28 (brF hxy (inner x (fun x' g' by' rk' hfr' hV' hM' hyx hcl' => ?_) N.1 0 x g by_ rk (by omega) hfr hVg hM (fun _ hi => hi) (fun _ q hq => absurd hq (by omega))))
        have he : x' = x := Classical.byContradiction (fun hne => by
          have h1 := c8b_lt hyx (fun i hi => hM'.1.2.1 i hi) hne
          have h2 := c8b_8 x'
          omega)
        exact fin x' x g' by' rk' he hfr' hV' hM' hcl'
    | succ d ih =>
      intro x y g by_ rk hcd hfr hVg hM hcl
      by_cases hxy : x = y
      · exact fin x y g by_ rk hxy hfr hVg hM hcl
      · refine Vm_flows_28 (brF hxy (inner x (fun x' g' by' rk' hfr' hV' hM' hyx hcl' => ?_) N.1 0 x g by_ rk (by omega) hfr hVg hM (fun _ hi => hi) (fun _ q hq => absurd hq (by omega))))
        by_cases he : x' = x
        · exact fin x' x g' by' rk' he hfr' hV' hM' hcl'
        · have h1 := c8b_lt hyx (fun i hi => hM'.1.2.1 i hi) he
          exact ih x' x g' by' rk' (by omega) hfr' hV' hM' hcl'
  have ini : ∀ (d e : Nat) (g : Sg), e + d = 8 → (∀ c, c ≠ 48 → c ≠ 49 → g c = g0 c) → FV 48 g f → Hm_flows_2 (nI a) (nI b) (nI e) g Q := by
    intro d
    induction d with
    | zero =>
      intro e g he hfr hVg
      have he8 : e = 8 := by omega
      rw [he8]
      have hbs : ∀ w, bt (sb (nI a)) w = true ↔ w = a := fun w => by rw [b_sb (by omega)]; simp
      refine Vm_flows_2 (brT (by decide) (outer 8 (sb (nI a)) 0 g (fun _ => 0) (fun _ => 0) (by omega) hfr hVg ⟨⟨(hbs a).mpr rfl, fun w hw => by rw [(hbs w).mp hw]; exact ha, fun w hw hwa => absurd ((hbs w).mp hw) hwa⟩, fun w _ => by rw [c8b_sb ha]; exact Nat.zero_lt_one, fun w hw hwa => absurd ((hbs w).mp hw) hwa⟩ (fun h0 => ?_)))
      have := (hbs a).mpr rfl
      rw [h0, b_0] at this
      cases this
    | succ d ih =>
      intro e g he hfr hVg
      refine Vm_flows_2 (brF (fun hx => ?_) ⟨vp_in_nI (by omega) (by omega), ?_⟩)
      · have : 8 ≤ e := (nI_leI (a := 8) (b := e) (by omega) (by omega)).mp hx
        omega
      · rw [nI_1]
        exact ih (e + 1) _ (by omega) (fun c c48 c49 => by funext j; rw [sg_k c49, hfr c c48 c49]) (fun q hq => by rw [sg_k (by decide)]; exact hVg q hq)
  exact Vm_flows (ini 8 0 g0 (by omega) (fun _ _ _ => rfl) hV)
theorem Sm_mostOf {N : Net} {sh : Int32} {tk : Nat} {h : Nat → Nat} {g0 : Sg} {a b : Nat} {Q : Int32 → Sg → Prop} (hL : LdM N sh tk h g0) (ha : a < 8) (hb : b < 8) (hab : a ≠ b) (hq : ∀ g', (∀ c, c ≠ 48 → c ≠ 49 → g' c = g0 c) → Q (nI (mxf N (capF sh tk h) a b)) g') : Cm_mostOf (nI a) (nI b) g0 Q := by
  have h16 := hL.1.1.1
  have htk := hL.2.2.2.1
  have loop : ∀ (d s : Nat) (g : Sg) (f : Nat → Int), s + d = 65 → (∀ c, c ≠ 48 → c ≠ 49 → g c = g0 c) → FV 48 g f → FLw N (capF sh tk h) f → VI N a b f s → Hm_mostOf_23 (nI a) (nI b) (nI s) g Q := by
    intro d
    induction d with
    | zero =>
      intro s g f hs hfr hV hf hvi
      have := vi_64 h16 (capF_4 htk h) hab hf hvi
      omega
    | succ d ih =>
      intro s g f hs hfr hV hf hvi
      refine Vm_mostOf_23 (Sm_flows (hL.of hfr) hV hf hvi ha hb hab (fun g1 f1 hf1 hV1 hF1 hvi1 => br1 ?_) (fun g1 hf1 hm => br0 ?_))
      · rw [nI_1]
        exact ih (s + 1) g1 f1 (by omega) (fun c c1 c2 => (hf1 c c1 c2).trans (hfr c c1 c2)) hV1 hF1 hvi1
      · have hz := hq g1 (fun c c1 c2 => (hf1 c c1 c2).trans (hfr c c1 c2))
        rw [mxf_of hm] at hz
        exact hz
  have ini : ∀ (d p : Nat) (g : Sg), p + d = 16 → (∀ c, c ≠ 48 → c ≠ 49 → g c = g0 c) → (∀ q, q < p → g 48 q = 0) → Hm_mostOf_2 (nI a) (nI b) (nI p) g Q := by
    intro d
    induction d with
    | zero =>
      intro p g hp hfr hz
      have hp16 : p = 16 := by omega
      rw [hp16] at hz ⊢
      exact Vm_mostOf_2 (brT (by decide) (loop 65 0 g (fun _ => 0) (by omega) hfr (fun q hq => by rw [hz q hq]; exact (show Int32.toInt 0 = 0 by decide)) (FLw.z N _) (VI.z N a b)))
    | succ d ih =>
      intro p g hp hfr hz
      refine Vm_mostOf_2 (brF (fun hx => ?_) ⟨vp_in_nI (by omega) (by omega), ?_⟩)
      · have : 16 ≤ p := (nI_leI (a := 16) (b := p) (by omega) (by omega)).mp hx
        omega
      · rw [nI_1, nI_clamp (show p < 2 ^ 31 by omega)]
        refine ih (p + 1) _ (by omega) (fun c c48 c49 => by funext j; rw [sg_k c48, hfr c c48 c49]) (fun q hq => ?_)
        by_cases hqp : q = p
        · rw [hqp, sg_s]
        · rw [sg_j hqp]; exact hz q (by omega)
  exact Vm_mostOf (ini 16 0 g0 (by omega) (fun _ _ _ => rfl) (fun q hq => absurd hq (by omega)))
