/-! lit: the class -/
theorem Sw_reachedFrom {N : Net} {g : Sg} {e : Nat} {Q : Int32 → Sg → Prop} (hN : NC N g) (he : e < 8) (hQ : Q (jn (oE N (OC g) N.1) e) g) : Cw_reachedFrom (nI e) g Q := by
  have h16 := hN.1.1
  obtain ⟨E, hE⟩ : ∃ E, E = oE N (OC g) N.1 := ⟨_, rfl⟩
  have inner : ∀ (x0 : Int32) (r : Nat), (∀ x, rnd E e x0 E x → Hw_reachedFrom_10 x x0 (nI r + 1) g Q) → ∀ (d p : Nat) (x : Int32), p + d = N.1 → rnd E e x0 (oE N (OC g) p) x → Hw_reachedFrom_27 x x0 (nI r) (nI p) g Q := by
    intro x0 r hk d
    induction d with
    | zero =>
      intro p x hpd hx
      have hpn : p = N.1 := by omega
      refine Vw_reachedFrom_27 ?_
      rw [hN.2.1, hpn]
      rw [hpn, ← hE] at hx
      exact brT (nI_le (Nat.le_refl _) (by omega)) (hk x hx)
    | succ d ih =>
      intro p x hpd hx
      have hpn : p < N.1 := by omega
      have hq := hN.1.2 p hpn
      have i16 : vp_in (nI p) 16 := vp_in_nI (by omega) (by omega)
      have hot := oc_t (g := g) (show p < 16 by omega)
      refine Vw_reachedFrom_27 ?_
      rw [hot, hN.2.1, nI_clamp (show p < 2 ^ 31 by omega), (hN.2.2 p hpn).1, (hN.2.2 p hpn).2.1, nI_1 p]
      refine brF (nI_ge hpn (by omega)) ⟨i16, i16, ?_⟩
      have hno : ¬ OC g p = true → Hw_reachedFrom_27 x x0 (nI r) (nI (p + 1)) g Q := fun ho => ih (p + 1) x (by omega) (hx.same (fun u v h => by
        obtain ⟨q, h1, h2, h3, h4⟩ := h
        by_cases hqp : q = p
        · rw [hqp] at h2; exact absurd h2 ho
        · exact ⟨q, by omega, h2, h3, h4⟩))
      have hyes : OC g p = true → Hw_reachedFrom_27 (adj x (nA N p) (nB N p)) x0 (nI r) (nI (p + 1)) g Q := fun ho => ih (p + 1) _ (by omega) (hx.adj (by omega) (by omega) (by rw [hE]; exact ⟨p, hpn, ho, rfl, rfl⟩) (fun u v h => by
        obtain ⟨q, h1, h2, h3, h4⟩ := h
        by_cases hqp : q = p
        · rw [hqp] at h3 h4; exact Or.inr ⟨h3, h4⟩
        · exact Or.inl ⟨q, by omega, h2, h3, h4⟩))
      have ec := adj_C (x := x) (a := nA N p) (b := nB N p) (by omega) (by omega)
      refine ⟨fun hz => ?_, fun hz => ⟨i16, fun ho => ?_, hno⟩⟩
      · rw [if_pos hz] at ec
        by_cases ho : OC g p = true
        · have := hyes ho; rw [← ec] at this; exact this
        · exact hno ho
      · rw [if_neg hz] at ec
        have := hyes ho
        rw [← ec] at this
        exact this
  have outer : ∀ (d r : Nat) (x y : Int32), r + d = 8 → onW E e x → (x = y → x = jn E e) → (¬ x = y → r + 1 ≤ c8b x) → Hw_reachedFrom_10 x y (nI r) g Q := by
    intro d
    induction d with
    | zero =>
      intro r x y hrd hx hxy hc
      have hr : r = 8 := by omega
      have hxe : x = y := Classical.byContradiction (fun hne => by
        have h1 := hc hne
        have h2 := c8b_8 x
        omega)
      rw [hr]
      refine Vw_reachedFrom_10 (brT (by decide) ?_)
      rw [hxy hxe, hE]; exact hQ
    | succ d ih =>
      intro r x y hrd hx hxy hc
      refine Vw_reachedFrom_10 (brF (fun hxx => ?_) ⟨fun h => ?_, fun h => ?_⟩)
      · have : 8 ≤ r := (nI_leI (a := 8) (b := r) (by omega) (by omega)).mp hxx
        omega
      · rw [hxy h, hE]; exact hQ
      · refine inner x r (fun x' hx' => ?_) N.1 0 x (by omega) (rnd.z hx (fun u v hs => by obtain ⟨w, hw, -⟩ := hs; omega))
        rw [nI_1]
        refine ih (r + 1) x' x (by omega) hx'.1 (fun h' => h'.trans (hx'.fin h')) (fun hne => ?_)
        have h1 := c8b_lt hx'.2.1 (fun i hi => (hx'.1.2 i hi).1) hne
        have h2 := hc h
        omega
  refine Vw_reachedFrom (outer 8 0 _ 0 (by omega) (onW.s he) (fun h => ?_) (fun _ => ?_))
  · have : bt (sb (nI e)) e = true := (onW.s (E := E) he).1
    rw [h, b_0] at this
    cases this
  · rw [c8b_sb he]; omega
theorem Sl_spread {E : Nat → Nat → Prop} {g : Sg} {x : Int32} {l : Nat} {Q : Int32 → Sg → Prop} (hJ : ∀ e, e < 8 → g 21 e = jn E e) (hl : l < 64) (hQ : Q (spr E x l) g) : Cl_spread x (nI l) g Q := by
  obtain ⟨e1, e2⟩ := e8 hl
  refine Vl_spread ?_
  rw [e1, e2, tbb_n _ (show l / 8 < 32 by omega), tbb_n _ (show l % 8 < 32 by omega), nI_clamp (show l / 8 < 2 ^ 31 by omega), nI_clamp (show l % 8 < 2 ^ 31 by omega), hJ (l / 8) (by omega), hJ (l % 8) (by omega)]
  have i1 : vp_in (nI (l / 8)) 8 := vp_in_nI (by omega) (by omega)
  have i2 : vp_in (nI (l % 8)) 8 := vp_in_nI (by omega) (by omega)
  unfold spr at hQ
  refine brT (rng' (n := 7) (by omega) (by omega)) (brT (rng' (n := 7) (by omega) (by omega)) ⟨fun h => ⟨i1, i2, ?_⟩, fun h => ⟨fun h' => ⟨i1, i2, ?_⟩, fun h' => ?_⟩⟩)
  · rw [if_pos (Or.inl h)] at hQ; exact hQ
  · rw [if_pos (Or.inr h')] at hQ; exact hQ
  · rw [if_neg (fun q => q.elim h h')] at hQ; exact hQ
theorem Sl_bw1 {E : Nat → Nat → Prop} (hE : edOK E) {g : Sg} {l : Nat} {Q : Int32 → Sg → Prop} (hJ : ∀ e, e < 8 → g 21 e = jn E e) (hl : l < 64) (hQ : Q (jn (EE E True l False 0) 0) g) : Cl_burningWith (-1) (nI l) g Q := by
  refine Vl_burningWith ?_
  rw [hJ 0 (by omega)]
  refine Sl_spread hJ hl (brT rfl ?_)
  rw [spr_1 hE hl 0]
  exact hQ
theorem Sl_bw2 {E : Nat → Nat → Prop} (hE : edOK E) {g : Sg} {o l : Nat} {Q : Int32 → Sg → Prop} (hJ : ∀ e, e < 8 → g 21 e = jn E e) (ho : o < 64) (hl : l < 64) (hQ : Q (jn (EE E True o True l) 0) g) : Cl_burningWith (nI o) (nI l) g Q := by
  refine Vl_burningWith ?_
  rw [hJ 0 (by omega)]
  refine Sl_spread hJ hl (brF (nI_m1 (by omega)) (Sl_spread hJ ho (Sl_spread hJ hl ?_)))
  rw [spr_2 hE ho hl]
  exact hQ
theorem Sl_lastLetIn {N : Net} {ends x2 : Int32} {B : Nat → Int32} {T : Nat → Prop} {g : Sg} {Q : Int32 → Sg → Prop} (hN : NC N g) (hB : ∀ (l : Nat) (Q' : Int32 → Sg → Prop), l < 64 → Q' (B l) g → Cl_burningWith x2 (nI l) g Q')
    (hT : ∀ l, l < 64 → (T l ↔ (¬ l / 8 = l % 8 ∧ way N (OC g) (l / 8) (l % 8) ≠ [] ∧ hld ends (B l)))) (hQ : Q (cuF T 64 0) g) : Cl_lastLetIn ends x2 g Q := by
  have loop : ∀ (d l : Nat), l + d = 64 → Q (cuF T d l) g → Hl_lastLetIn_2 ends x2 (nI l) g Q := by
    intro d
    induction d with
    | zero =>
      intro l hl hq
      have : l = 64 := by omega
      rw [this]
      exact Vl_lastLetIn_2 (brT (by decide) hq)
    | succ d ih =>
      intro l hl hq
      obtain ⟨e1, e2⟩ := e8 (show l < 64 by omega)
      have hTl := hT l (by omega)
      refine Vl_lastLetIn_2 (brF (fun hx => ?_) ?_)
      · have : 64 ≤ l := (nI_leI (a := 64) (b := l) (by omega) (by omega)).mp hx
        omega
      rw [e1, e2, nI_1, nI_eq (show l / 8 < 2 ^ 31 by omega) (show l % 8 < 2 ^ 31 by omega)]
      have no : ¬ T l → Hl_lastLetIn_2 ends x2 (nI (l + 1)) g Q := fun hn => by
        rw [cuF_f hn] at hq
        exact ih (l + 1) (by omega) hq
      refine ⟨fun h => no (fun q => (hTl.mp q).1 h), fun h => hB l _ (by omega) ⟨fun hh => Sw_reachedFrom hN (by omega) ?_, fun hh => no (fun q => hh (hTl.mp q).2.2)⟩⟩
      rw [tbb_n _ (show l % 8 < 32 by omega)]
      have hw := way_rch hN.1 (O := OC g) (show l / 8 < 8 by omega) (show l % 8 < 8 by omega) h
      refine ⟨fun hb => ?_, fun hb => no (fun q => hb (jn_bt.mpr ⟨by omega, hw.mp (hTl.mp q).2.1⟩))⟩
      rw [cuF_t (hTl.mpr ⟨h, hw.mpr (jn_bt.mp hb).2, hh⟩)] at hq
      exact hq
  exact Vl_lastLetIn (loop 64 0 (by omega) hQ)
theorem hw1_le {N : Net} (hN : netOK N) {sh : Int32} {tk : Nat} {h : Nat → Nat} (hht : ∀ p, h p ≤ tk) {o : Nat} (ho : o < 64) : ∀ p, hw1 N sh tk h o p ≤ tk := fun p => by
  have w3 := (way_opl hN (sh := sh) (tk := tk) (h := h) (show o / 8 < 8 by omega) (show o % 8 < 8 by omega)).2.2
  unfold hw1 addW
  by_cases hm : p ∈ way N (opl sh tk h) (o / 8) (o % 8)
  · rw [if_pos hm]; have := (w3 p hm).2.2; omega
  · rw [if_neg hm, Nat.add_zero]; exact hht p
theorem okT_iff {N : Net} {sh : Int32} {tk : Nat} {h : Nat → Nat} {E : Nat → Nat → Prop} {ends : Int32} {o : Nat} : okT N sh tk h E ends o ↔ (¬ o / 8 = o % 8 ∧ wne N sh tk h o ∧ ¬ cuF (ok2 N sh tk h E ends o) 64 0 = -1) := by
  unfold okT
  constructor
  · rintro ⟨h1, h2, l, h3, h4⟩
    refine ⟨h1, h2, fun hc => ?_⟩
    rcases cuF_or (T := ok2 N sh tk h E ends o) 64 0 with ⟨-, q⟩ | ⟨j, -, q2, q3, -⟩
    · exact q l (by omega) (by omega) h4
    · rw [q3] at hc; exact nI_m1 (by omega) hc
  · rintro ⟨h1, h2, h3⟩
    rcases cuF_or (T := ok2 N sh tk h E ends o) 64 0 with ⟨q, -⟩ | ⟨j, -, q2, q3, q4⟩
    · exact absurd q h3
    · exact ⟨h1, h2, j, by omega, q4⟩
def frL (g0 g : Sg) : Prop := ∀ c, c ≠ 7 → c ≠ 9 → c ≠ 10 → c ≠ 20 → g c = g0 c
theorem LdC.l {N : Net} {sh : Int32} {tk : Nat} {h : Nat → Nat} {g g' : Sg} (hL : LdC N sh tk h g) (hf : frL g g') : LdC N sh tk h g' := by
  obtain ⟨h1, h2, h3, h4, h5, h6⟩ := hL
  have e1 := hf 1 (by decide) (by decide) (by decide) (by decide)
  exact ⟨h1.of e1 (hf 3 (by decide) (by decide) (by decide) (by decide)) (hf 4 (by decide) (by decide) (by decide) (by decide)) (hf 5 (by decide) (by decide) (by decide) (by decide)) (hf 6 (by decide) (by decide) (by decide) (by decide)), by rw [e1]; exact h2, by rw [e1]; exact h3, h4, fun p hp => by rw [hf 8 (by decide) (by decide) (by decide) (by decide)]; exact h5 p hp, h6⟩
theorem i_pm (x : Int32) : x + 1 + (-1) = x := by
  rw [Int32.add_assoc]
  have : (1 : Int32) + (-1) = 0 := by decide
  rw [this, Int32.add_zero]
theorem Sl_seekTwo {N : Net} {sh : Int32} {tk : Nat} {h : Nat → Nat} {E : Nat → Nat → Prop} (hE : edOK E) {ends : Int32} {g0 : Sg} {Q : Sg → Prop} (hL : LdC N sh tk h g0) (hJ : ∀ e, e < 8 → g0 21 e = jn E e)
    (hq0 : ∀ g', frL g0 g' → (∀ j, g' 20 j = g0 20 j) → cuF (okT N sh tk h E ends) 64 0 = -1 → Q g')
    (hq1 : ∀ (g' : Sg) (o : Nat), o < 64 → frL g0 g' → cuF (okT N sh tk h E ends) 64 0 = nI o → g' 20 3 = 2 → g' 20 4 = nI o → g' 20 5 = cuF (ok2 N sh tk h E ends o) 64 0 → Q g') : Cl_seekTwo ends g0 Q := by
  have hN := hL.1
  have h16 := hN.1.1
  have loop : ∀ (d o : Nat) (g : Sg), o + d = 64 → frL g0 g → (∀ j, g 20 j = g0 20 j) → cuF (okT N sh tk h E ends) 64 0 = cuF (okT N sh tk h E ends) d o → Hl_seekTwo_2 ends (nI o) g Q := by
    intro d
    induction d with
    | zero =>
      intro o g ho hfr h20 hc
      have : o = 64 := by omega
      rw [this]
      exact Vl_seekTwo_2 (brT (by decide) (hq0 g hfr h20 hc))
    | succ d ih =>
      intro o g ho hfr h20 hc
      have ho64 : o < 64 := by omega
      obtain ⟨e1, e2⟩ := e8 ho64
      refine Vl_seekTwo_2 (brF (fun hx => ?_) ?_)
      · have : 64 ≤ o := (nI_leI (a := 64) (b := o) (by omega) (by omega)).mp hx
        omega
      rw [e1, e2, nI_1, nI_eq (show o / 8 < 2 ^ 31 by omega) (show o % 8 < 2 ^ 31 by omega)]
      have no : ¬ okT N sh tk h E ends o → ∀ g', frL g0 g' → (∀ j, g' 20 j = g0 20 j) → Hl_seekTwo_2 ends (nI (o + 1)) g' Q := fun hn g' hf' h20' => by
        rw [cuF_f hn] at hc
        exact ih (o + 1) g' (by omega) hf' h20' hc
      refine ⟨fun hh => no (fun q => q.1 hh) g hfr h20, fun hh => ?_⟩
      have hLg := hL.l hfr
      have ha : o / 8 < 8 := by omega
      have hb : o % 8 < 8 := by omega
      have hO : ∀ p, p < N.1 → OC g p = opl sh tk h p := fun p hp => OC_opl hLg.2.1 hLg.2.2.1 hLg.2.2.2.1 hLg.2.2.2.2.1 hLg.2.2.2.2.2 (by omega)
      have hway := way_cg hN.1 hO ha hb
      obtain ⟨w1, w2, w3⟩ := way_opl hN.1 (sh := sh) (tk := tk) (h := h) ha hb
      refine Sw_find hLg.1 ha hb hh (fun g1 hf1 hrow => ?_)
      rw [hway] at hrow ⊢
      have hfr1 : frL g0 g1 := fun c c7 c9 c10 c20 => (hf1 c c7 c9 c10).trans (hfr c c7 c9 c10 c20)
      have h201 : ∀ j, g1 20 j = g0 20 j := fun j => by rw [hf1 20 (by decide) (by decide) (by decide)]; exact h20 j
      refine ⟨fun hem => br0 (no (fun q => q.2.1 hem) g1 hfr1 h201), fun hne => br1 ?_⟩
      have l16 : ∀ p ∈ way N (opl sh tk h) (o / 8) (o % 8), p < 16 := fun p hp => by have := (w3 p hp).1; omega
      refine Sw_drawAlongRow hrow w1 w2 l16 (fun g2 hf2 h82 => ?_)
      have hL1 := hL.l hfr1
      have h8' : ∀ p, p < 16 → g2 8 p = nI (hw1 N sh tk h o p) := fun p hp => by
        rw [h82, hL1.2.2.2.2.1 p hp]
        unfold hw1 addW
        by_cases hm : p ∈ way N (opl sh tk h) (o / 8) (o % 8)
        · rw [if_pos hm, if_pos hm, nI_1]
        · rw [if_neg hm, if_neg hm, Nat.add_zero]
      have e12 := hf2 1 (by decide)
      have hN2 : NC N g2 := hL1.1.of e12 (hf2 3 (by decide)) (hf2 4 (by decide)) (hf2 5 (by decide)) (hf2 6 (by decide))
      have hO2 : ∀ p, p < N.1 → OC g2 p = opl sh tk (hw1 N sh tk h o) p := fun p hp => OC_opl (by rw [e12]; exact hL1.2.1) (by rw [e12]; exact hL1.2.2.1) hL1.2.2.2.1 h8' (hw1_le hN.1 hL1.2.2.2.2.2 ho64) (by omega)
      have hJ2 : ∀ e, e < 8 → g2 21 e = jn E e := fun e he => by rw [hf2 21 (by decide), hfr1 21 (by decide) (by decide) (by decide) (by decide)]; exact hJ e he
      refine Sl_lastLetIn (B := fun l => jn (EE E True o True l) 0) (T := ok2 N sh tk h E ends o) hN2 (fun l Q' hl hq' => Sl_bw2 hE hJ2 ho64 hl hq') (fun l hl => ?_) ?_
      · have := way_cg hN.1 hO2 (show l / 8 < 8 by omega) (show l % 8 < 8 by omega)
        unfold ok2 wne
        rw [this]
      · have hrow2 : RowAt g2 (way N (opl sh tk h) (o / 8) (o % 8)) := ⟨by rw [hf2 7 (by decide)]; exact hrow.1, fun j hj => by rw [hf2 10 (by decide)]; exact hrow.2 j hj⟩
        refine Sw_drawAlongRow hrow2 w1 w2 l16 (fun g3 hf3 h83 => ?_)
        have h8e : g3 8 = g1 8 := by
          funext p
          rw [h83, h82]
          by_cases hm : p ∈ way N (opl sh tk h) (o / 8) (o % 8)
          · rw [if_pos hm, if_pos hm, i_pm]
          · rw [if_neg hm, if_neg hm]
        have hfr3 : frL g0 g3 := fun c c7 c9 c10 c20 => by
          by_cases hc8 : c = 8
          · rw [hc8, h8e]; exact hfr1 8 (by decide) (by decide) (by decide) (by decide)
          · rw [hf3 c hc8, hf2 c hc8]; exact hfr1 c c7 c9 c10 c20
        have h203 : ∀ j, g3 20 j = g0 20 j := fun j => by rw [hf3 20 (by decide), hf2 20 (by decide)]; exact h201 j
        refine ⟨fun hm1 => no (fun q => (okT_iff.mp q).2.2 hm1) g3 hfr3 h203, fun hm1 => ?_⟩
        rw [cuF_t (okT_iff.mpr ⟨hh, hne, hm1⟩)] at hc
        refine hq1 _ o ho64 (fun c c7 c9 c10 c20 => ?_) hc ?_ ?_ ?_
        · funext j; rw [sg_k c20, sg_k c20, sg_k c20, hfr3 c c7 c9 c10 c20]
        · rw [sg_j (by decide), sg_j (by decide), sg_s]
        · rw [sg_j (by decide), sg_s]
        · rw [sg_s]
  exact Vl_seekTwo (loop 64 0 g0 (by omega) (fun _ _ _ _ _ => rfl) (fun _ => rfl) rfl)
theorem wE_ok (f t : Nat → Int32) (ws : Int32) (k : Nat) : edOK (wE f t ws k) := fun u v h => by
  obtain ⟨w, -, -, h1, h2, -⟩ := h
  exact ⟨h1, h2⟩
theorem Sl_seek {g : Sg} {bv : Nat → Nat} {n : Nat} {sh : Int32} {tk hd m : Nat} {f t : Nat → Int32} {ends : Int32} {Q : Sg → Prop} (hX : RelX g bv n sh tk hd m f t)
    (hQ : ∀ g', Kp scA g g' → (g' 20 3, g' 20 4, g' 20 5) = litA (NT bv n) sh tk (ld (pw (NT bv n) sh tk f t m)) (wE f t (ly (pw (NT bv n) sh tk f t m)) 16) ends → Q g') : Cl_seek ends g Q := by
  obtain ⟨hC, hM, hSet, hSt, hB⟩ := id hX
  have hm := hSt.2.2.1
  obtain ⟨E, hE⟩ : ∃ E, E = wE f t (ly (pw (NT bv n) sh tk f t m)) 16 := ⟨_, rfl⟩
  have hEo : edOK E := by rw [hE]; exact wE_ok _ _ _ _
  obtain ⟨P, hP⟩ : ∃ P, P = pw (NT bv n) sh tk f t m := ⟨_, rfl⟩
  rw [← hE, ← hP] at hQ
  have loop : ∀ (d e : Nat) (g1 : Sg), e + d = 8 → (∀ c, c ≠ 20 → c ≠ 21 → g1 c = g c) → (g1 20 3 = -1 ∧ g1 20 4 = -1 ∧ g1 20 5 = -1) → (∀ i, i < e → g1 21 i = jn E i) → Hl_seek_25 ends (ly P) (nI e) g1 Q := by
    intro d
    induction d with
    | zero =>
      intro e g1 he hfr h20 h21
      have he8 : e = 8 := by omega
      rw [he8] at h21 ⊢
      refine Vl_seek_25 (brT (by decide) ?_)
      rw [h21 0 (by omega)]
      have hk1 : Kp scA g g1 := Kp.w2 hfr (fun _ => rfl) (fun _ => rfl)
      have hX1 := hX.sc hk1
      refine ⟨fun h0 => hQ _ (hk1.u rfl) ?_, fun h0 => hX1.loadNow (fun g2 hf2 hL2 => ?_)⟩
      · rw [litA_0 h0, sg_s, sg_j (by decide), sg_j (by decide), h20.2.1, h20.2.2]
      · have hk2 : Kp scA g g2 := hk1.tr (Kp.c8 hf2)
        rw [← hP] at hL2
        have h212 : ∀ i, i < 8 → g2 21 i = jn E i := fun i hi => by rw [hf2 21 (by decide)]; exact h21 i hi
        have h202 : g2 20 3 = -1 ∧ g2 20 4 = -1 ∧ g2 20 5 = -1 := by rw [hf2 20 (by decide)]; exact h20
        have h16 := hL2.1.1.1
        have hO2 : ∀ p, p < (NT bv n).1 → OC g2 p = opl sh tk (ld P) p := fun p hp => OC_opl hL2.2.1 hL2.2.2.1 hL2.2.2.2.1 hL2.2.2.2.2.1 hL2.2.2.2.2.2 (by omega)
        refine Sl_lastLetIn (B := fun l => jn (EE E True l False 0) 0) (T := ok1 (NT bv n) sh tk (ld P) E ends) hL2.1 (fun l Q' hl hq' => Sl_bw1 hEo h212 hl hq') (fun l hl => ?_) ?_
        · have := way_cg hL2.1.1 hO2 (show l / 8 < 8 by omega) (show l % 8 < 8 by omega)
          unfold ok1 wne
          rw [this]
        · refine ⟨fun hm1 => ?_, fun hm1 => hQ _ ((hk2.u rfl).u rfl) ?_⟩
          · refine Sl_seekTwo hEo hL2 h212 (fun g3 hf3 h203 hc => hQ g3 (hk2.tr (fun k j hk => ?_)) ?_) (fun g3 o ho hf3 hc z3 z4 z5 => hQ g3 (hk2.tr (fun k j hk => ?_)) ?_)
            · rw [hf3 k (fun hx => by subst hx; simp [scA] at hk) (fun hx => by subst hx; simp [scA] at hk) (fun hx => by subst hx; simp [scA] at hk) (fun hx => by subst hx; simp [scA] at hk)]
            · rw [litA_3 h0 hm1 hc, h203, h203, h203, h202.1, h202.2.1, h202.2.2]
            · rw [hf3 k (fun hx => by subst hx; simp [scA] at hk) (fun hx => by subst hx; simp [scA] at hk) (fun hx => by subst hx; simp [scA] at hk) (fun hx => by subst hx; simp [scA] at hk)]
            · rw [litA_2 h0 hm1 ho hc, z3, z4, z5]
          · rw [litA_1 h0 hm1, sg_s (sgU g2 20 3 1) 20 4, sg_j (k := 20) (j := 4) (j' := 3) (by decide), sg_j (k := 20) (j := 4) (j' := 5) (by decide), sg_s g2 20 3, sg_j (k := 20) (j := 3) (j' := 5) (by decide), h202.2.2]
    | succ d ih =>
      intro e g1 he hfr h20 h21
      refine Vl_seek_25 (brF (fun hx => ?_) ?_)
      · have : 8 ≤ e := (nI_leI (a := 8) (b := e) (by omega) (by omega)).mp hx
        omega
      have hk1 : Kp scA g g1 := Kp.w2 hfr (fun _ => rfl) (fun _ => rfl)
      obtain ⟨w1, w2, -⟩ := (hX.sc hk1).wok (Nat.le_refl m) (ws := ly (pw (NT bv n) sh tk f t m)) (fun w _ h => h)
      rw [hP]
      refine Sb_joinedTo (by omega) w1 w2 ⟨vp_in_nI (by omega) (by omega), ?_⟩
      rw [nI_1, nI_clamp (show e < 2 ^ 31 by omega), ← hE, ← hP]
      refine ih (e + 1) _ (by omega) (fun c c20 c21 => by funext j; rw [sg_k c21, hfr c c20 c21]) (by rw [sg_k (by decide), sg_k (by decide), sg_k (by decide)]; exact h20) (fun i hi => ?_)
      by_cases hie : i = e
      · rw [hie, sg_s]
      · rw [sg_j hie]; exact h21 i (by omega)
  refine Vl_seek ?_
  rw [hSt.1, nI_clamp (show m < 2 ^ 31 by omega), (hB m (Nat.le_refl m)).1, ← hP]
  refine ⟨vp_in_nI (by omega) (by omega), loop 8 0 _ (by omega) (fun c c20 _ => by funext j; rw [sg_k c20, sg_k c20, sg_k c20]) ⟨?_, ?_, ?_⟩ (fun i hi => absurd hi (by omega))⟩
  · rw [sg_j (by decide), sg_j (by decide), sg_s]
  · rw [sg_j (by decide), sg_s]
  · rw [sg_s]
