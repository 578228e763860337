/-! lit: the reference -/
def LnM (f t : Nat → Int32) (ws : Int32) (g : Sg) : Prop := g 34 15 = ws ∧ ∀ w, w < 16 → bt ws w = true → g 42 (2 * w) = f w ∧ g 42 (2 * w + 1) = t w
theorem bB {b1 b2 : Int32} {ends : Int32} {g : Sg} {Q : Int32 → Sg → Prop} (e : b1 = b2) (h : (hld ends b2 → Q 1 g) ∧ (¬ hld ends b2 → Q 0 g)) : ((ends &&& (b1 ^^^ (-1))) = 0 → Q 1 g) ∧ (¬ (ends &&& (b1 ^^^ (-1))) = 0 → Q 0 g) := by rw [e]; exact h
theorem Sm_lights53 {f t : Nat → Int32} {ws ends x3 x4 x5 : Int32} {a b : Nat} {p1 p2 : Prop} {g0 : Sg} {Q : Int32 → Sg → Prop} (hok : wOK f t ws) (hln : LnM f t ws g0) (ha : a < 64) (h4 : (p1 ∧ x4 = 1) ∨ (¬ p1 ∧ x4 = 0)) (h5 : (p2 ∧ x5 = 1 ∧ b < 64 ∧ x3 = nI b) ∨ (¬ p2 ∧ x5 = 0))
    (hq : ∀ g', (∀ c, c ≠ 44 → g' c = g0 c) → (∀ p, p < 16 → g' 44 p = g0 47 p) → (hld ends (jn (EE (wE f t ws 16) p1 a p2 b) 0) → Q 1 g') ∧ (¬ hld ends (jn (EE (wE f t ws 16) p1 a p2 b) 0) → Q 0 g')) : Hm_lights_53 ends (nI a) x3 x4 x5 g0 Q := by
  refine Vm_lights_53 (Sm_putsBack (fun g1 hf1 h44 => ?_))
  have hq' := hq g1 hf1 h44
  have l1 : g1 34 15 = ws := by rw [hf1 34 (by decide)]; exact hln.1
  have l2 : ∀ w, w < 16 → bt ws w = true → g1 42 (2 * w) = f w ∧ g1 42 (2 * w + 1) = t w := fun w hw hb => by rw [hf1 42 (by decide)]; exact hln.2 w hw hb
  obtain ⟨e1, e2⟩ := e8 ha
  rw [l1, e1, e2]
  have oa : exOK (nI (a / 8)) (nI (a % 8)) := Or.inr ⟨a / 8, a % 8, by omega, by omega, rfl, rfl⟩
  have ea : ∀ u v, exE (nI (a / 8)) (nI (a % 8)) u v ↔ (u = a / 8 ∧ v = a % 8) := fun u v => exE_s (by omega) (by omega)
  rcases h4 with ⟨q1, h4⟩ | ⟨q1, h4⟩
  · rcases h5 with ⟨q2, h5, hb, e3⟩ | ⟨q2, h5⟩
    · obtain ⟨e4, e5⟩ := e8 hb
      have ob : exOK (nI (b / 8)) (nI (b % 8)) := Or.inr ⟨b / 8, b % 8, by omega, by omega, rfl, rfl⟩
      have eb : ∀ u v, exE (nI (b / 8)) (nI (b % 8)) u v ↔ (u = b / 8 ∧ v = b % 8) := fun u v => exE_s (by omega) (by omega)
      rw [e3, e4, e5]
      refine brF (by rw [h4]; decide) (brF (by rw [h5]; decide) (brF (by rw [h5]; decide) (Sm_burnsBy hok l2 oa ob (bB (jn_cg (fun u v => ?_) 0) hq'))))
      rw [ea, eb]
      unfold EE
      simp [q1, q2]
    · refine brF (by rw [h4]; decide) (brT h5 (brT h5 (Sm_burnsBy hok l2 oa (Or.inl rfl) (bB (jn_cg (fun u v => ?_) 0) hq'))))
      rw [ea]
      unfold EE
      simp [q1, q2, exE_n]
  · rcases h5 with ⟨q2, h5, hb, e3⟩ | ⟨q2, h5⟩
    · obtain ⟨e4, e5⟩ := e8 hb
      have ob : exOK (nI (b / 8)) (nI (b % 8)) := Or.inr ⟨b / 8, b % 8, by omega, by omega, rfl, rfl⟩
      have eb : ∀ u v, exE (nI (b / 8)) (nI (b % 8)) u v ↔ (u = b / 8 ∧ v = b % 8) := fun u v => exE_s (by omega) (by omega)
      rw [e3, e4, e5]
      refine brT h4 (brF (by rw [h5]; decide) (brF (by rw [h5]; decide) (Sm_burnsBy hok l2 (Or.inl rfl) ob (bB (jn_cg (fun u v => ?_) 0) hq'))))
      rw [eb]
      unfold EE
      simp [q1, q2, exE_n]
    · refine brT h4 (brT h5 (brT h5 (Sm_burnsBy hok l2 (Or.inl rfl) (Or.inl rfl) (bB (jn_cg (fun u v => ?_) 0) hq'))))
      unfold EE
      simp [q1, q2, exE_n]
def frM (g0 g : Sg) : Prop := (∀ c, c ≠ 44 → c ≠ 45 → c ≠ 46 → c ≠ 47 → c ≠ 50 → g c = g0 c) ∧ ∀ p, p < 16 → g 44 p = g0 44 p
theorem frM.tr {g0 g1 g2 : Sg} (h1 : frM g0 g1) (h2 : frM g1 g2) : frM g0 g2 := ⟨fun c a1 a2 a3 a4 a5 => (h2.1 c a1 a2 a3 a4 a5).trans (h1.1 c a1 a2 a3 a4 a5), fun p hp => (h2.2 p hp).trans (h1.2 p hp)⟩
theorem frM.rf (g : Sg) : frM g g := ⟨fun _ _ _ _ _ _ => rfl, fun _ _ => rfl⟩
theorem frM.u {g0 g : Sg} (h : frM g0 g) (j : Nat) (x : Int32) : frM g0 (sgU g 50 j x) := ⟨fun c a1 a2 a3 a4 a5 => by funext i; rw [sg_k a5, h.1 c a1 a2 a3 a4 a5], fun p hp => by rw [sg_k (by decide)]; exact h.2 p hp⟩
theorem LdM.l {N : Net} {sh : Int32} {tk : Nat} {h : Nat → Nat} {g g' : Sg} (hL : LdM N sh tk h g) (hf : frM g g') : LdM N sh tk h g' := by
  obtain ⟨h1, h2, h3, h4, h5, h6⟩ := hL
  have e41 := hf.1 41 (by decide) (by decide) (by decide) (by decide) (by decide)
  exact ⟨h1.of (by rw [hf.1 34 (by decide) (by decide) (by decide) (by decide) (by decide)]) (hf.1 40 (by decide) (by decide) (by decide) (by decide) (by decide)), by rw [e41]; exact h2, by rw [e41]; exact h3, h4, fun p hp => (hf.2 p hp).trans (h5 p hp), h6⟩
theorem LnM.l {f t : Nat → Int32} {ws : Int32} {g g' : Sg} (hL : LnM f t ws g) (hf : frM g g') : LnM f t ws g' := by
  refine ⟨?_, fun w hw hb => ?_⟩
  · rw [hf.1 34 (by decide) (by decide) (by decide) (by decide) (by decide)]; exact hL.1
  · rw [hf.1 42 (by decide) (by decide) (by decide) (by decide) (by decide)]; exact hL.2 w hw hb
theorem Sm_lights {N : Net} {sh : Int32} {tk : Nat} {h : Nat → Nat} {f t : Nat → Int32} {ws ends x3 : Int32} {a b : Nat} {p2 : Prop} {g0 : Sg} {Q : Int32 → Sg → Prop} (hok : wOK f t ws) (hln : LnM f t ws g0) (hL : LdM N sh tk h g0) (ha : a < 64) (haa : ¬ a / 8 = a % 8)
    (h3 : (x3 = -1 ∧ ¬ p2) ∨ (x3 = nI b ∧ b < 64 ∧ ¬ b / 8 = b % 8 ∧ (p2 ↔ wne N sh tk (hw1 N sh tk h a) b)))
    (hq : ∀ g', frM g0 g' → (∀ j, g' 50 j = g0 50 j) → (hld ends (jn (EE (wE f t ws 16) (wne N sh tk h a) a p2 b) 0) → Q 1 g') ∧ (¬ hld ends (jn (EE (wE f t ws 16) (wne N sh tk h a) a p2 b) 0) → Q 0 g')) : Cm_lights ends (nI a) x3 g0 Q := by
  obtain ⟨hN, h9, h10, htk, h8, hht⟩ := id hL
  obtain ⟨e1, e2⟩ := e8 ha
  refine Vm_lights ?_
  rw [e1, e2]
  refine Sm_keeps (fun g1 hf1 h47 => ?_)
  have hN1 : NM N g1 := hN.of (by rw [hf1 34 (by decide)]) (hf1 40 (by decide))
  refine Sm_drawsL (sh := sh) (tk := tk) (h := h) hN1 (by rw [hf1 41 (by decide)]; exact h9) (by rw [hf1 41 (by decide)]; exact h10) htk (fun p hp => by rw [hf1 44 (by decide)]; exact h8 p hp) hht (by omega) (by omega) haa (fun g2 hf2 h82 hht2 => ?_)
  rw [wbl_z hN.1 (by omega) (by omega)]
  have c2 : ∀ c, c ≠ 44 → c ≠ 45 → c ≠ 46 → c ≠ 47 → g2 c = g0 c := fun c a1 a2 a3 a4 => (hf2 c a1 a2 a3).trans (hf1 c a4)
  have k2 : ∀ p, p < 16 → g2 47 p = g0 44 p := fun p hp => by rw [hf2 47 (by decide) (by decide) (by decide)]; exact h47 p hp
  have s26 : ∀ x4 : Int32, ((wne N sh tk h a ∧ x4 = 1) ∨ (¬ wne N sh tk h a ∧ x4 = 0)) → Hm_lights_26 ends (nI a) x3 x4 g2 Q := by
    intro x4 h4
    have fin : ∀ (g3 : Sg) (x5 : Int32), (∀ c, c ≠ 44 → c ≠ 45 → c ≠ 46 → c ≠ 47 → g3 c = g0 c) → (∀ p, p < 16 → g3 47 p = g0 44 p) → ((p2 ∧ x5 = 1 ∧ b < 64 ∧ x3 = nI b) ∨ (¬ p2 ∧ x5 = 0)) → Hm_lights_53 ends (nI a) x3 x4 x5 g3 Q := by
      intro g3 x5 c3 k3 h5
      refine Sm_lights53 hok ⟨?_, fun w hw hb => ?_⟩ ha h4 h5 (fun g4 hf4 h44 => hq g4 ⟨fun c a1 a2 a3 a4 _ => (hf4 c a1).trans (c3 c a1 a2 a3 a4), fun p hp => (h44 p hp).trans (k3 p hp)⟩ (fun j => ?_))
      · rw [c3 34 (by decide) (by decide) (by decide) (by decide)]; exact hln.1
      · rw [c3 42 (by decide) (by decide) (by decide) (by decide)]; exact hln.2 w hw hb
      · rw [hf4 50 (by decide), c3 50 (by decide) (by decide) (by decide) (by decide)]
    refine Vm_lights_26 ⟨fun hx => ?_, fun hx => ?_⟩
    · rcases h3 with ⟨-, h3⟩ | ⟨h3, hb, -⟩
      · exact fin g2 0 c2 k2 (Or.inr ⟨h3, rfl⟩)
      · rw [h3] at hx; exact absurd hx (nI_m1 (by omega))
    · rcases h3 with ⟨h3, -⟩ | ⟨h3, hb, hbb, hp2⟩
      · exact absurd h3 hx
      · obtain ⟨e3, e4⟩ := e8 hb
        rw [h3, e3, e4]
        have hN2 : NM N g2 := hN1.of (by rw [hf2 34 (by decide) (by decide) (by decide)]) (hf2 40 (by decide) (by decide) (by decide))
        refine Sm_drawsL (sh := sh) (tk := tk) (h := hw1 N sh tk h a) hN2 (by rw [hf2 41 (by decide) (by decide) (by decide), hf1 41 (by decide)]; exact h9) (by rw [hf2 41 (by decide) (by decide) (by decide), hf1 41 (by decide)]; exact h10) htk h82 hht2 (by omega) (by omega) hbb (fun g3 hf3 h83 hht3 => ?_)
        rw [wbl_z hN.1 (by omega) (by omega), ← h3]
        have c3 : ∀ c, c ≠ 44 → c ≠ 45 → c ≠ 46 → c ≠ 47 → g3 c = g0 c := fun c a1 a2 a3 a4 => (hf3 c a1 a2 a3).trans (c2 c a1 a2 a3 a4)
        have k3 : ∀ p, p < 16 → g3 47 p = g0 44 p := fun p hp => by rw [hf3 47 (by decide) (by decide) (by decide)]; exact k2 p hp
        exact ⟨fun hem => fin g3 0 c3 k3 (Or.inr ⟨fun q => hp2.mp q hem, rfl⟩), fun hne => fin g3 1 c3 k3 (Or.inl ⟨hp2.mpr hne, rfl, hb, h3⟩)⟩
  exact ⟨fun hem => s26 0 (Or.inr ⟨fun q => q hem, rfl⟩), fun hne => s26 1 (Or.inl ⟨hne, rfl⟩)⟩
theorem lit_k1 {N : Net} {sh : Int32} {tk : Nat} {h : Nat → Nat} {E : Nat → Nat → Prop} {ends : Int32} (h0 : ¬ hld ends (jn E 0)) {a : Nat} (haa : ¬ a / 8 = a % 8) : hld ends (jn (EE E (wne N sh tk h a) a False 0) 0) ↔ ok1 N sh tk h E ends a := by
  by_cases q1 : wne N sh tk h a
  · have e : jn (EE E (wne N sh tk h a) a False 0) 0 = jn (EE E True a False 0) 0 := jn_cg (fun u v => by unfold EE; simp [q1]) 0
    rw [e]
    exact ⟨fun q => ⟨haa, q1, q⟩, fun q => q.2.2⟩
  · have e : jn (EE E (wne N sh tk h a) a False 0) 0 = jn E 0 := jn_cg (fun u v => by unfold EE; simp [q1]) 0
    rw [e]
    exact ⟨fun q => absurd q h0, fun q => absurd q.2.1 q1⟩
theorem lit_k2 {N : Net} {sh : Int32} {tk : Nat} {h : Nat → Nat} {E : Nat → Nat → Prop} {ends : Int32} (h0 : ¬ hld ends (jn E 0)) (h1 : ∀ l, l < 64 → ¬ ok1 N sh tk h E ends l) {a b : Nat} (ha : a < 64) (hb : b < 64) (haa : ¬ a / 8 = a % 8) (hbb : ¬ b / 8 = b % 8) : hld ends (jn (EE E (wne N sh tk h a) a (wne N sh tk (hw1 N sh tk h a) b) b) 0) ↔ (wne N sh tk h a ∧ ok2 N sh tk h E ends a b) := by
  by_cases q1 : wne N sh tk h a
  · by_cases q2 : wne N sh tk (hw1 N sh tk h a) b
    · have e : jn (EE E (wne N sh tk h a) a (wne N sh tk (hw1 N sh tk h a) b) b) 0 = jn (EE E True a True b) 0 := jn_cg (fun u v => by unfold EE; simp [q1, q2]) 0
      rw [e]
      exact ⟨fun q => ⟨q1, hbb, q2, q⟩, fun q => q.2.2.2⟩
    · have e : jn (EE E (wne N sh tk h a) a (wne N sh tk (hw1 N sh tk h a) b) b) 0 = jn (EE E True a False 0) 0 := jn_cg (fun u v => by unfold EE; simp [q1, q2]) 0
      rw [e]
      exact ⟨fun q => absurd ⟨haa, q1, q⟩ (h1 a ha), fun q => absurd q.2.2.1 q2⟩
  · have hem : way N (opl sh tk h) (a / 8) (a % 8) = [] := Classical.not_not.mp q1
    have hw : hw1 N sh tk h a = h := by
      unfold hw1
      rw [hem]
      funext p
      unfold addW
      simp
    rw [hw]
    by_cases q2 : wne N sh tk h b
    · have e : jn (EE E (wne N sh tk h a) a (wne N sh tk h b) b) 0 = jn (EE E True b False 0) 0 := jn_cg (fun u v => by unfold EE; simp [q1, q2]) 0
      rw [e]
      exact ⟨fun q => absurd ⟨hbb, q2, q⟩ (h1 b hb), fun q => absurd q.1 q1⟩
    · have e : jn (EE E (wne N sh tk h a) a (wne N sh tk h b) b) 0 = jn E 0 := jn_cg (fun u v => by unfold EE; simp [q1, q2]) 0
      rw [e]
      exact ⟨fun q => absurd q h0, fun q => absurd q.1 q1⟩
theorem Sm_findLit {N : Net} {sh : Int32} {tk : Nat} {h : Nat → Nat} {f t : Nat → Int32} {ws ends : Int32} {g0 : Sg} {Q : Sg → Prop} (hok : wOK f t ws) (hln : LnM f t ws g0) (hL : LdM N sh tk h g0)
    (hq : ∀ g', frM g0 g' → (g' 50 0, g' 50 1, g' 50 2) = litA N sh tk h (wE f t ws 16) ends → Q g') : Cm_findLit ends g0 Q := by
  obtain ⟨E, hE⟩ : ∃ E, E = wE f t ws 16 := ⟨_, rfl⟩
  rw [← hE] at hq
  have ge64 : ∀ {k : Nat}, k < 64 → ¬ (64 : Int32) ≤ nI k := fun {k} hk hx => by
    have : 64 ≤ k := (nI_leI (a := 64) (b := k) (by omega) (by omega)).mp hx
    omega
  -- nothing more is sought
  have z110 : ∀ (k : Nat) (g : Sg), Q g → Hm_findLit_110 ends 0 (nI k) g Q := fun k g hqq => Vm_findLit_110 ⟨fun _ => hqq, fun _ => brT rfl hqq⟩
  have z123 : ∀ (k j : Nat) (g : Sg), Q g → Hm_findLit_123 ends 0 (nI k) (nI j) g Q := fun k j g hqq => by
    have := z110 (k + 1) g hqq
    rw [← nI_1] at this
    exact Vm_findLit_123 ⟨fun _ => this, fun _ => brT rfl this⟩
  have z55 : ∀ (k : Nat) (g : Sg), Q g → Hm_findLit_55 ends 0 (nI k) g Q := fun k g hqq => Vm_findLit_55 ⟨fun _ => z110 0 g hqq, fun _ => brT rfl (z110 0 g hqq)⟩
  have s110 : ¬ hld ends (jn E 0) → cuF (ok1 N sh tk h E ends) 64 0 = -1 → ∀ (d a : Nat) (g : Sg), a + d = 64 → frM g0 g → (g 50 0 = -1 ∧ g 50 1 = -1 ∧ g 50 2 = -1) → cuF (okT N sh tk h E ends) 64 0 = cuF (okT N sh tk h E ends) d a → Hm_findLit_110 ends 1 (nI a) g Q := by
    intro h0 h1 d
    have h1' : ∀ l, l < 64 → ¬ ok1 N sh tk h E ends l := fun l hl hT => by
      rcases cuF_or (T := ok1 N sh tk h E ends) 64 0 with ⟨-, q⟩ | ⟨j, -, q2, q3, -⟩
      · exact q l (by omega) (by omega) hT
      · rw [q3] at h1; exact nI_m1 (by omega) h1
    induction d with
    | zero =>
      intro a g ha hfr h50 hc
      have : a = 64 := by omega
      rw [this]
      refine Vm_findLit_110 (brT (by decide) (hq g hfr ?_))
      rw [litA_3 h0 h1 hc, h50.1, h50.2.1, h50.2.2]
    | succ d ih =>
      intro a g ha hfr h50 hc
      have ha64 : a < 64 := by omega
      obtain ⟨e1, e2⟩ := e8 ha64
      refine Vm_findLit_110 (brF (ge64 ha64) (brF (by decide) ?_))
      have no : ¬ okT N sh tk h E ends a → ∀ g', frM g0 g' → (g' 50 0 = -1 ∧ g' 50 1 = -1 ∧ g' 50 2 = -1) → Hm_findLit_110 ends 1 (nI a + 1) g' Q := fun hn g' hf' h50' => by
        rw [cuF_f hn] at hc
        rw [nI_1]
        exact ih (a + 1) g' (by omega) hf' h50' hc
      have s123 : ∀ (c b : Nat) (g : Sg), b + c = 64 → frM g0 g → (g 50 0 = -1 ∧ g 50 1 = -1 ∧ g 50 2 = -1) → (∀ j, j < b → ¬ (wne N sh tk h a ∧ ok2 N sh tk h E ends a j)) → (wne N sh tk h a → cuF (ok2 N sh tk h E ends a) 64 0 = cuF (ok2 N sh tk h E ends a) c b) → Hm_findLit_123 ends 1 (nI a) (nI b) g Q := by
        intro c
        induction c with
        | zero =>
          intro b g hb hfr h50 hno _
          have : b = 64 := by omega
          rw [this] at hno ⊢
          refine Vm_findLit_123 (brT (by decide) (no (fun q => ?_) g hfr h50))
          obtain ⟨-, q2, l, q3, q4⟩ := q
          exact hno l q3 ⟨q2, q4⟩
        | succ c ih2 =>
          intro b g hb hfr h50 hno hcu
          have hb64 : b < 64 := by omega
          obtain ⟨e3, e4⟩ := e8 hb64
          refine Vm_findLit_123 (brF (ge64 hb64) (brF (by decide) ?_))
          rw [e1, e2, e3, e4, nI_eq (show a / 8 < 2 ^ 31 by omega) (show a % 8 < 2 ^ 31 by omega), nI_eq (show b / 8 < 2 ^ 31 by omega) (show b % 8 < 2 ^ 31 by omega), nI_1 b]
          refine ⟨fun haa => no (fun q => q.1 haa) g hfr h50, fun haa => ?_⟩
          have nb : ¬ (wne N sh tk h a ∧ ok2 N sh tk h E ends a b) → ∀ g', frM g0 g' → (g' 50 0 = -1 ∧ g' 50 1 = -1 ∧ g' 50 2 = -1) → Hm_findLit_123 ends 1 (nI a) (nI (b + 1)) g' Q := fun hn g' hf' h50' => by
            refine ih2 (b + 1) g' (by omega) hf' h50' (fun j hj => ?_) (fun hw => ?_)
            · by_cases hjb : j = b
              · rw [hjb]; exact hn
              · exact hno j (by omega)
            · rw [hcu hw, cuF_f (fun q => hn ⟨hw, q⟩)]
          refine ⟨fun hbb => nb (fun q => q.2.1 hbb) g hfr h50, fun hbb => ?_⟩
          refine Sm_lights (b := b) (p2 := wne N sh tk (hw1 N sh tk h a) b) hok (hln.l hfr) (hL.l hfr) ha64 haa (Or.inr ⟨rfl, hb64, hbb, Iff.rfl⟩) (fun g1 hf1 h501 => ?_)
          have hfr1 := hfr.tr hf1
          have h501' : g1 50 0 = -1 ∧ g1 50 1 = -1 ∧ g1 50 2 = -1 := by rw [h501, h501, h501]; exact h50
          rw [← hE, lit_k2 h0 h1' ha64 hb64 haa hbb]
          refine ⟨fun hy => br1 (z123 a (b + 1) _ (hq _ (((hfr1.u 0 2).u 1 _).u 2 _) ?_)), fun hn => br0 (nb hn g1 hfr1 h501')⟩
          have hT : okT N sh tk h E ends a := ⟨haa, hy.1, b, hb64, hy.2⟩
          rw [cuF_t hT] at hc
          rw [litA_2 h0 h1 ha64 hc, hcu hy.1, cuF_t hy.2]
          have r0 : (sgU (sgU (sgU g1 50 0 2) 50 1 (nI a)) 50 2 (nI b)) 50 0 = 2 := by rw [sg_j (by decide), sg_j (by decide), sg_s]
          have r1 : (sgU (sgU (sgU g1 50 0 2) 50 1 (nI a)) 50 2 (nI b)) 50 1 = nI a := by rw [sg_j (by decide), sg_s]
          rw [r0, r1, sg_s]
      exact s123 64 0 g (by omega) hfr h50 (fun j hj => absurd hj (by omega)) (fun _ => rfl)
  have s55 : ¬ hld ends (jn E 0) → ∀ (d a : Nat) (g : Sg), a + d = 64 → frM g0 g → (g 50 0 = -1 ∧ g 50 1 = -1 ∧ g 50 2 = -1) → cuF (ok1 N sh tk h E ends) 64 0 = cuF (ok1 N sh tk h E ends) d a → Hm_findLit_55 ends 1 (nI a) g Q := by
    intro h0 d
    induction d with
    | zero =>
      intro a g ha hfr h50 hc
      have : a = 64 := by omega
      rw [this]
      exact Vm_findLit_55 (brT (by decide) (s110 h0 hc 64 0 g (by omega) hfr h50 rfl))
    | succ d ih =>
      intro a g ha hfr h50 hc
      have ha64 : a < 64 := by omega
      obtain ⟨e1, e2⟩ := e8 ha64
      refine Vm_findLit_55 (brF (ge64 ha64) (brF (by decide) ?_))
      rw [e1, e2, nI_eq (show a / 8 < 2 ^ 31 by omega) (show a % 8 < 2 ^ 31 by omega), nI_1 a]
      have no : ¬ ok1 N sh tk h E ends a → ∀ g', frM g0 g' → (g' 50 0 = -1 ∧ g' 50 1 = -1 ∧ g' 50 2 = -1) → Hm_findLit_55 ends 1 (nI (a + 1)) g' Q := fun hn g' hf' h50' => by
        rw [cuF_f hn] at hc
        exact ih (a + 1) g' (by omega) hf' h50' hc
      refine ⟨fun haa => no (fun q => q.1 haa) g hfr h50, fun haa => ?_⟩
      refine Sm_lights (b := 0) (p2 := False) hok (hln.l hfr) (hL.l hfr) ha64 haa (Or.inl ⟨rfl, id⟩) (fun g1 hf1 h501 => ?_)
      have hfr1 := hfr.tr hf1
      have h501' : g1 50 0 = -1 ∧ g1 50 1 = -1 ∧ g1 50 2 = -1 := by rw [h501, h501, h501]; exact h50
      rw [← hE, lit_k1 h0 haa]
      refine ⟨fun hy => br1 (z55 (a + 1) _ (hq _ ((hfr1.u 0 1).u 1 _) ?_)), fun hn => br0 (no hn g1 hfr1 h501')⟩
      rw [cuF_t hy] at hc
      rw [litA_1 h0 (by rw [hc]; exact nI_m1 (by omega)), hc]
      have r0 : (sgU (sgU g1 50 0 1) 50 1 (nI a)) 50 0 = 1 := by rw [sg_j (by decide), sg_s]
      have r2 : (sgU (sgU g1 50 0 1) 50 1 (nI a)) 50 2 = -1 := by rw [sg_j (by decide), sg_j (by decide)]; exact h501'.2.2
      rw [r0, r2, sg_s]
  have s2 : ∀ (d k : Nat) (g : Sg), k + d = 3 → frM g0 g → (∀ j, j < k → g 50 j = -1) → Hm_findLit_2 ends (nI k) g Q := by
    intro d
    induction d with
    | zero =>
      intro k g hk hfr h50
      have hk3 : k = 3 := by omega
      rw [hk3] at h50 ⊢
      refine Vm_findLit_2 (brT (by decide) (Vm_burnsNow ?_))
      obtain ⟨l1, l2⟩ := hln.l hfr
      rw [l1, and_off0]
      refine Sm_burnsBy hok l2 (Or.inl rfl) (Or.inl rfl) ?_
      have e : jn (fun u v => wE f t ws 16 u v ∨ exE (-1) (-1) u v ∨ exE (-1) (-1) u v) 0 = jn E 0 := by
        rw [hE]
        exact jn_cg (fun u v => ⟨fun h => h.elim id (fun h => h.elim (fun q => absurd q exE_n) (fun q => absurd q exE_n)), Or.inl⟩) 0
      rw [e]
      refine ⟨fun h0 => z55 0 _ (hq _ (hfr.u 0 0) ?_), fun h0 => s55 h0 64 0 _ (by omega) (hfr.u 0 _) ⟨by rw [sg_s], by rw [sg_j (by decide)]; exact h50 1 (by omega), by rw [sg_j (by decide)]; exact h50 2 (by omega)⟩ rfl⟩
      have r1 : (sgU g 50 0 0) 50 1 = -1 := by rw [sg_j (by decide)]; exact h50 1 (by omega)
      have r2 : (sgU g 50 0 0) 50 2 = -1 := by rw [sg_j (by decide)]; exact h50 2 (by omega)
      rw [litA_0 h0, sg_s, r1, r2]
    | succ d ih =>
      intro k g hk hfr h50
      refine Vm_findLit_2 (brF (fun hx => ?_) ⟨vp_in_nI (by omega) (by omega), ?_⟩)
      · have : 3 ≤ k := (nI_leI (a := 3) (b := k) (by omega) (by omega)).mp hx
        omega
      · rw [nI_1, nI_clamp (show k < 2 ^ 31 by omega)]
        refine ih (k + 1) _ (by omega) (hfr.u _ _) (fun j hj => ?_)
        by_cases hjk : j = k
        · rw [hjk, sg_s]
        · rw [sg_j hjk]; exact h50 j (by omega)
  exact Vm_findLit (s2 3 0 g0 (by omega) (frM.rf g0) (fun j hj => absurd hj (by omega)))
theorem frM.kp {g g' : Sg} (h : frM g g') : Kp scA g g' := fun k j hk => by
  rw [h.1 k (fun hx => by subst hx; simp [scA] at hk) (fun hx => by subst hx; simp [scA] at hk) (fun hx => by subst hx; simp [scA] at hk) (fun hx => by subst hx; simp [scA] at hk) (fun hx => by subst hx; simp [scA] at hk)]
theorem Sm_findLitR {g g1 : Sg} {bv : Nat → Nat} {n : Nat} {sh : Int32} {tk hd m : Nat} {f t : Nat → Int32} {ends : Int32} {Q : Sg → Prop} (hX : RelX g bv n sh tk hd m f t) (hk : Kp scA g g1) (hN : NM (NT bv n) g1) (hG : MG g1 (pw (NT bv n) sh tk f t m))
    (hQ : ∀ g', Kp scA g1 g' → NM (NT bv n) g' → MG g' (pw (NT bv n) sh tk f t m) → (g' 50 0, g' 50 1, g' 50 2) = litA (NT bv n) sh tk (ld (pw (NT bv n) sh tk f t m)) (wE f t (ly (pw (NT bv n) sh tk f t m)) 16) ends → Q g') : Cm_findLit ends g1 Q := by
  obtain ⟨w1, -, w3⟩ := (hX.sc hk).wok (Nat.le_refl m) (ws := ly (pw (NT bv n) sh tk f t m)) (fun w _ h => h)
  refine Sm_findLit w1 ⟨hG.1, w3⟩ (hX.ldm hk hN hG) (fun g2 hf2 he => hQ g2 hf2.kp (hN.of ?_ ?_) ⟨?_, fun w hw hne => ?_, fun p hp => (hf2.2 p hp).trans (hG.2.2 p hp)⟩ he)
  · rw [hf2.1 34 (by decide) (by decide) (by decide) (by decide) (by decide)]
  · exact hf2.1 40 (by decide) (by decide) (by decide) (by decide) (by decide)
  · rw [hf2.1 34 (by decide) (by decide) (by decide) (by decide) (by decide)]; exact hG.1
  · rw [hf2.1 43 (by decide) (by decide) (by decide) (by decide) (by decide)]; exact hG.2.1 w hw hne
theorem op_lit {x1 x2 : Int32} {g : Sg} {Q : Int32 → Int32 → Sg → Prop} (hR : Rel g) (hQ : ∀ r g', Rel g' → Q r r g') : Cx_lit x1 x2 g (fun r g1 => Cm_lit x1 x2 g1 (fun r' g2 => Q r r' g2)) := by
  obtain ⟨⟨bv, n, sh, tk, hd, m, f, t, hX⟩, hJ, hSh⟩ := id hR
  by_cases h1 : 0 ≤ x1 ∧ x1 ≤ 255
  · by_cases h2 : 0 ≤ x2 ∧ x2 ≤ 2
    · refine Vx_lit (brT h1 (brT h2 (Sl_seek hX (fun g1 hk1 he1 => ?_))))
      have fin : ∀ r : Int32, (∀ g2 : Sg, g1 20 3 = g2 50 0 → g1 20 4 = g2 50 1 → g1 20 5 = g2 50 2 → r = g2 50 x2.toNatClampNeg) → Cm_lit x1 x2 g1 (fun r' g2 => Q r r' g2) := by
        intro r hr
        refine Vm_lit (brT h1 (brT h2 ((hX.sc hk1).goesAll (fun g2 hk2 hN2 hG2 _ _ => Sm_findLitR (hX.sc hk1) hk2 hN2 hG2 (fun g3 hk3 _ _ he3 => ⟨?_, ?_⟩)))))
        · obtain ⟨k, hk, rfl⟩ := rng (n := 2) (by omega) h2
          exact vp_in_nI (by omega) (by omega)
        · have hx := he1.trans he3.symm
          injection hx with z1 z2
          injection z2 with z2 z3
          rw [hr g3 z1 z2 z3]
          exact hQ _ _ (((hR.sc hk1).sc hk2).sc hk3)
      refine ⟨fun hx => fin _ (fun g2 z1 _ _ => ?_), fun hx => ⟨fun hx1 => fin _ (fun g2 _ z2 _ => ?_), fun hx1 => fin _ (fun g2 _ _ z3 => ?_)⟩⟩
      · rw [z1, hx]; rfl
      · rw [z2, hx1]; rfl
      · obtain ⟨k, hk, rfl⟩ := rng (n := 2) (by omega) h2
        have hk2 : k = 2 := by
          have c0 : k ≠ 0 := fun q => hx (by rw [q]; rfl)
          have c1 : k ≠ 1 := fun q => hx1 (by rw [q]; rfl)
          omega
        rw [z3, hk2]; rfl
    · exact Vx_lit (brT h1 (brF h2 (Vm_lit (brT h1 (brF h2 (hQ _ _ hR))))))
  · exact Vx_lit (brF h1 (Vm_lit (brF h1 (hQ _ _ hR))))
