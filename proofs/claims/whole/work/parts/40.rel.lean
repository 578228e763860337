/-! what holds between the two objects at every call -/
def RSet (g : Sg) (sh : Int32) (tk hd : Nat) : Prop := g 1 9 = sh ∧ g 41 0 = sh ∧ (0 ≤ sh ∧ sh ≤ 65535) ∧ g 1 10 = nI tk ∧ g 41 1 = nI tk ∧ 1 ≤ tk ∧ tk ≤ 4 ∧ g 0 8 = nI hd ∧ g 41 2 = nI hd ∧ 1 ≤ hd ∧ hd ≤ 999
def RSt (g : Sg) (m : Nat) (f t : Nat → Int32) : Prop := g 11 6 = nI m ∧ g 34 11 = nI m ∧ m ≤ 16 ∧ ∀ j, j < m → stOK (f j) (t j) ∧ g 12 j = f j ∧ g 13 j = t j ∧ g 42 (2 * j) = f j ∧ g 42 (2 * j + 1) = t j
def RelX (g : Sg) (bv : Nat → Nat) (n : Nat) (sh : Int32) (tk hd m : Nat) (f t : Nat → Int32) : Prop := TC bv n g ∧ TM bv n g ∧ RSet g sh tk hd ∧ RSt g m f t ∧ BkC (NT bv n) sh tk f t g m
def RJ (g : Sg) : Prop := ∃ mc sc : Nat, mc ≤ 8 ∧ sc ≤ 6 ∧ g 26 3 = nI mc ∧ g 34 26 = nI mc ∧ g 26 4 = nI sc ∧ g 34 28 = nI sc ∧ (∀ i, i < mc → ∃ w a b : Nat, w < 16 ∧ a < 8 ∧ b < 8 ∧ a ≠ b ∧ g 27 i = nI w ∧ g 28 i = sb (nI a) ||| sb (nI b) ∧ g 53 (3 * i) = nI w ∧ g 53 (3 * i + 1) = nI a ∧ g 53 (3 * i + 2) = nI b) ∧ ∀ i, i < sc → g 29 i = g 54 i
def Rel (g : Sg) : Prop := (∃ bv n sh tk hd m f t, RelX g bv n sh tk hd m f t) ∧ RJ g ∧ RS g
theorem Kp.cell {S : Nat → Nat → Bool} {g g' : Sg} (h : Kp S g g') (k : Nat) (hs : ∀ j, S k j = false) : g' k = g k := by funext j; exact h k j (hs j)
theorem TC.fr {bv : Nat → Nat} {n : Nat} {g g' : Sg} (h : TC bv n g) (h1 : ∀ j, 5 ≤ j → j ≤ 8 → g' 1 j = g 1 j) (h2 : g' 2 = g 2) (h3 : g' 3 = g 3) (h4 : g' 4 = g 4) (h5 : g' 5 = g 5) (h6 : g' 6 = g 6) : TC bv n g' := by
  unfold TC
  rw [h1 5 (by omega) (by omega), h1 6 (by omega) (by omega), h1 7 (by omega) (by omega), h1 8 (by omega) (by omega), h2, h3, h4, h5, h6]
  exact h
theorem TM.fr {bv : Nat → Nat} {n : Nat} {g g' : Sg} (h : TM bv n g) (h1 : g' 34 6 = g 34 6) (h2 : g' 39 = g 39) : TM bv n g' := by
  unfold TM
  rw [h1, h2]
  exact h
theorem RSet.fr {g g' : Sg} {sh : Int32} {tk hd : Nat} (h : RSet g sh tk hd) (h1 : g' 1 9 = g 1 9) (h2 : g' 1 10 = g 1 10) (h3 : g' 41 = g 41) (h4 : g' 0 8 = g 0 8) : RSet g' sh tk hd := by
  unfold RSet
  rw [h1, h2, h3, h4]
  exact h
theorem RSt.fr {g g' : Sg} {m : Nat} {f t : Nat → Int32} (h : RSt g m f t) (h1 : g' 11 6 = g 11 6) (h2 : g' 34 11 = g 34 11) (h3 : g' 12 = g 12) (h4 : g' 13 = g 13) (h5 : g' 42 = g 42) : RSt g' m f t := by
  unfold RSt
  rw [h1, h2, h3, h4, h5]
  exact h
theorem BkC.fr {N : Net} {sh : Int32} {tk : Nat} {f t : Nat → Int32} {g g' : Sg} {m : Nat} (h : BkC N sh tk f t g m) (h1 : g' 14 = g 14) (h2 : g' 15 = g 15) : BkC N sh tk f t g' m := by
  unfold BkC lyl
  rw [h1, h2]
  exact h
theorem RJ.fr {g g' : Sg} (h : RJ g) (h1 : g' 26 = g 26) (h2 : g' 34 26 = g 34 26) (h3 : g' 34 28 = g 34 28) (h4 : g' 27 = g 27) (h5 : g' 28 = g 28) (h6 : g' 29 = g 29) (h7 : g' 53 = g 53) (h8 : g' 54 = g 54) : RJ g' := by
  unfold RJ
  rw [h1, h2, h3, h4, h5, h6, h7, h8]
  exact h
theorem RS.fr {g g' : Sg} (h : RS g) (h1 : g' 30 3 = g 30 3) (h2 : g' 34 4 = g 34 4) (h3 : g' 31 = g 31) (h4 : g' 32 = g 32) (h5 : g' 33 = g 33) (h6 : g' 35 = g 35) (h7 : g' 36 = g 36) (h8 : g' 37 = g 37) : RS g' := by
  unfold RS shOK
  rw [h1, h2, h3, h4, h5, h6, h7, h8]
  exact h
/-- the cells that are used for reckoning alone -/
def scA (k j : Nat) : Bool := k == 7 || k == 8 || k == 9 || k == 10 || k == 17 || k == 18 || k == 19 || k == 20 || k == 21 || k == 23 || k == 24 || k == 25 || k == 38 || k == 40 || k == 43 || k == 44 || k == 45 || k == 46 || k == 47 || k == 48 || k == 49 || k == 50 || k == 51 || k == 52 || (k == 34 && (j == 7 || j == 8 || j == 15 || j == 16 || j == 17))
theorem RelX.sc {g g' : Sg} {bv : Nat → Nat} {n : Nat} {sh : Int32} {tk hd m : Nat} {f t : Nat → Int32} (h : RelX g bv n sh tk hd m f t) (hk : Kp scA g g') : RelX g' bv n sh tk hd m f t := by
  obtain ⟨h1, h2, h3, h4, h5⟩ := h
  exact ⟨h1.fr (fun j _ _ => hk 1 j rfl) (hk.cell 2 (fun _ => rfl)) (hk.cell 3 (fun _ => rfl)) (hk.cell 4 (fun _ => rfl)) (hk.cell 5 (fun _ => rfl)) (hk.cell 6 (fun _ => rfl)), h2.fr (hk 34 6 rfl) (hk.cell 39 (fun _ => rfl)), h3.fr (hk 1 9 rfl) (hk 1 10 rfl) (hk.cell 41 (fun _ => rfl)) (hk 0 8 rfl),
    h4.fr (hk 11 6 rfl) (hk 34 11 rfl) (hk.cell 12 (fun _ => rfl)) (hk.cell 13 (fun _ => rfl)) (hk.cell 42 (fun _ => rfl)), h5.fr (hk.cell 14 (fun _ => rfl)) (hk.cell 15 (fun _ => rfl))⟩
theorem RJ.sc {g g' : Sg} (h : RJ g) (hk : Kp scA g g') : RJ g' := h.fr (hk.cell 26 (fun _ => rfl)) (hk 34 26 rfl) (hk 34 28 rfl) (hk.cell 27 (fun _ => rfl)) (hk.cell 28 (fun _ => rfl)) (hk.cell 29 (fun _ => rfl)) (hk.cell 53 (fun _ => rfl)) (hk.cell 54 (fun _ => rfl))
theorem RS.sc {g g' : Sg} (h : RS g) (hk : Kp scA g g') : RS g' := h.fr (hk 30 3 rfl) (hk 34 4 rfl) (hk.cell 31 (fun _ => rfl)) (hk.cell 32 (fun _ => rfl)) (hk.cell 33 (fun _ => rfl)) (hk.cell 35 (fun _ => rfl)) (hk.cell 36 (fun _ => rfl)) (hk.cell 37 (fun _ => rfl))
theorem Rel.sc {g g' : Sg} (h : Rel g) (hk : Kp scA g g') : Rel g' := by
  obtain ⟨⟨bv, n, sh, tk, hd, m, f, t, h1⟩, h2, h3⟩ := h
  exact ⟨⟨bv, n, sh, tk, hd, m, f, t, h1.sc hk⟩, h2.sc hk, h3.sc hk⟩
/-- behind 0 steps nothing lies, whatever the pipes -/
theorem BkC.z {N N' : Net} {sh sh' : Int32} {tk tk' : Nat} {f t f' t' : Nat → Int32} {g g' : Sg} {m : Nat} (h : BkC N sh tk f t g m) (h14 : g' 14 0 = g 14 0) : BkC N' sh' tk' f' t' g' 0 := by
  intro j hj
  have hj0 : j = 0 := by omega
  rw [hj0]
  exact ⟨by rw [h14]; exact (h 0 (by omega)).1, fun w _ hne => absurd rfl hne⟩
/-- the class's half of RelX behind a change of pipes or settings: the steps are played anew -/
theorem replay {g0 : Sg} {bv : Nat → Nat} {n : Nat} {sh : Int32} {tk m : Nat} {f t : Nat → Int32} {Q : Sg → Prop} (hT : TC bv n g0) (h9 : g0 1 9 = sh) (h10 : g0 1 10 = nI tk) (htk : tk ≤ 4) (hS : RSt g0 m f t) (hz : g0 14 0 = 0)
    (hq : ∀ g', (∀ c, cBk c = false → g' c = g0 c) → BkC (NT bv n) sh tk f t g' m → Q g') : Cb_playFrom 0 g0 Q := by
  refine Sb_playFrom (k := 0) hT.net h9 h10 (by omega) hS.1 hS.2.2.1 (fun j hj => (hS.2.2.2 j hj).1) (fun j hj => (hS.2.2.2 j hj).2.1) (fun j hj => (hS.2.2.2 j hj).2.2.1) hq (Nat.zero_le _) (fun j hj => ?_)
  have hj0 : j = 0 := by omega
  rw [hj0]
  refine ⟨?_, fun w _ hne => absurd rfl hne⟩
  rw [hz]
  exact ly_ext (fun w hw => ⟨fun hx => absurd ((b_0 w).symm.trans hx) (by decide), fun hx => absurd rfl hx⟩) (fun w _ => b_0 w)
theorem ly_0 : ly (fun _ => (0 : Int32)) = 0 := (ly_ext (fun w hw => ⟨fun hx => absurd ((b_0 w).symm.trans hx) (by decide), fun hx => absurd rfl hx⟩) (fun w _ => b_0 w)).symm
theorem BkC.l0 {N : Net} {sh : Int32} {tk : Nat} {f t : Nat → Int32} {g : Sg} {m : Nat} (h : BkC N sh tk f t g m) : g 14 0 = 0 := ((h 0 (by omega)).1).trans ly_0
theorem op_type {x1 : Int32} {g : Sg} {Q : Int32 → Int32 → Sg → Prop} (hR : Rel g) (hQ : ∀ r g', Rel g' → Q r r g') : Cx_type x1 g (fun r g1 => Cm_type x1 g1 (fun r' g2 => Q r r' g2)) := by
  obtain ⟨⟨bv, n, sh, tk, hd, m, f, t, hX⟩, hJ, hSh⟩ := id hR
  obtain ⟨hC, hM, hSet, hSt, hB⟩ := id hX
  have hn := hC.2.2.2.1
  by_cases hb : 0 ≤ x1 ∧ x1 ≤ 255
  · refine Vx_type (brT hb ?_)
    rw [hC.1]
    by_cases h79 : n < 79
    · refine brT ((nI_ltI (a := n) (b := 79) (by omega) (by omega)).mpr h79) ?_
      obtain ⟨b, hb2, rfl⟩ := rng (n := 255) (by omega) hb
      refine Sp_append hC h79 (by omega) (fun g1 hf1 hC1 => ?_)
      have e1 : ∀ c, c ≠ 1 → c ≠ 2 → c ≠ 3 → c ≠ 4 → c ≠ 5 → c ≠ 6 → g1 c = g c := hf1.1
      have e34 : g1 34 = g 34 := e1 34 (by decide) (by decide) (by decide) (by decide) (by decide) (by decide)
      have hSt1 : RSt g1 m f t := hSt.fr (by rw [e1 11 (by decide) (by decide) (by decide) (by decide) (by decide) (by decide)]) (by rw [e34]) (e1 12 (by decide) (by decide) (by decide) (by decide) (by decide) (by decide)) (e1 13 (by decide) (by decide) (by decide) (by decide) (by decide) (by decide)) (e1 42 (by decide) (by decide) (by decide) (by decide) (by decide) (by decide))
      refine replay (sh := sh) (tk := tk) hC1 (by rw [hf1.2 9 (by decide) (by decide) (by decide) (by decide)]; exact hSet.1) (by rw [hf1.2 10 (by decide) (by decide) (by decide) (by decide)]; exact hSet.2.2.2.1) hSet.2.2.2.2.2.2.1 hSt1 (by rw [e1 14 (by decide) (by decide) (by decide) (by decide) (by decide) (by decide)]; exact hB.l0) (fun g2 hf2 hB2 => ?_)
      have c2 : ∀ c, c ≠ 1 → c ≠ 2 → c ≠ 3 → c ≠ 4 → c ≠ 5 → c ≠ 6 → cBk c = false → g2 c = g c := fun c a1 a2 a3 a4 a5 a6 hc => (hf2 c hc).trans (e1 c a1 a2 a3 a4 a5 a6)
      have hC2 : TC (updN bv n b) (n + 1) g2 := hC1.fr (fun j _ _ => by rw [hf2 1 rfl]) (hf2 2 rfl) (hf2 3 rfl) (hf2 4 rfl) (hf2 5 rfl) (hf2 6 rfl)
      have g34 : g2 34 = g 34 := c2 34 (by decide) (by decide) (by decide) (by decide) (by decide) (by decide) rfl
      refine Vm_type (brT hb ?_)
      rw [g34, hM.1]
      refine brF (fun hx => ?_) ⟨vp_in_nI h79 (by omega), ?_⟩
      · have := (nI_eq (a := n) (b := 79) (by omega) (by omega)).mp hx
        omega
      · rw [hC2.1, nI_clamp (show n < 2 ^ 31 by omega), nI_1]
        refine hQ _ _ ⟨⟨updN bv n b, n + 1, sh, tk, hd, m, f, t, ?_, ⟨?_, ?_, hC2.2.2.1, by omega⟩, ?_, ?_, ?_⟩, ?_, ?_⟩
        · exact hC2.fr (fun j _ _ => by rw [sg_k (by decide), sg_k (by decide)]) (by funext j; rw [sg_k (by decide), sg_k (by decide)]) (by funext j; rw [sg_k (by decide), sg_k (by decide)]) (by funext j; rw [sg_k (by decide), sg_k (by decide)]) (by funext j; rw [sg_k (by decide), sg_k (by decide)]) (by funext j; rw [sg_k (by decide), sg_k (by decide)])
        · rw [sg_s]
        · intro i hi
          rw [sg_k (by decide)]
          by_cases hin : i = n
          · rw [hin, sg_s]; simp [updN]
          · rw [sg_j hin, c2 39 (by decide) (by decide) (by decide) (by decide) (by decide) (by decide) rfl, hM.2.1 i (by omega)]
            simp [updN, hin]
        · refine hSet.fr ?_ ?_ ?_ ?_
          · rw [sg_k (by decide), sg_k (by decide), hf2 1 rfl, hf1.2 9 (by decide) (by decide) (by decide) (by decide)]
          · rw [sg_k (by decide), sg_k (by decide), hf2 1 rfl, hf1.2 10 (by decide) (by decide) (by decide) (by decide)]
          · funext j; rw [sg_k (by decide), sg_k (by decide), c2 41 (by decide) (by decide) (by decide) (by decide) (by decide) (by decide) rfl]
          · rw [sg_k (by decide), sg_k (by decide), c2 0 (by decide) (by decide) (by decide) (by decide) (by decide) (by decide) rfl]
        · refine hSt.fr ?_ ?_ ?_ ?_ ?_
          · rw [sg_k (by decide), sg_k (by decide), c2 11 (by decide) (by decide) (by decide) (by decide) (by decide) (by decide) rfl]
          · rw [sg_j (by decide), sg_k (by decide), g34]
          · funext j; rw [sg_k (by decide), sg_k (by decide), c2 12 (by decide) (by decide) (by decide) (by decide) (by decide) (by decide) rfl]
          · funext j; rw [sg_k (by decide), sg_k (by decide), c2 13 (by decide) (by decide) (by decide) (by decide) (by decide) (by decide) rfl]
          · funext j; rw [sg_k (by decide), sg_k (by decide), c2 42 (by decide) (by decide) (by decide) (by decide) (by decide) (by decide) rfl]
        · exact hB2.fr (by funext j; rw [sg_k (by decide), sg_k (by decide)]) (by funext j; rw [sg_k (by decide), sg_k (by decide)])
        · have cJ : ∀ c, c ≠ 1 → c ≠ 2 → c ≠ 3 → c ≠ 4 → c ≠ 5 → c ≠ 6 → c ≠ 34 → c ≠ 39 → cBk c = false → (sgU (sgU g2 39 n (nI b)) 34 6 (nI (n + 1))) c = g c := fun c a1 a2 a3 a4 a5 a6 a34 a39 hc => by funext j; rw [sg_k a34, sg_k a39, c2 c a1 a2 a3 a4 a5 a6 hc]
          refine hJ.fr (cJ 26 (by decide) (by decide) (by decide) (by decide) (by decide) (by decide) (by decide) (by decide) rfl) (by rw [sg_j (by decide), sg_k (by decide), g34]) (by rw [sg_j (by decide), sg_k (by decide), g34]) ?_ ?_ ?_ ?_ ?_
          · exact cJ 27 (by decide) (by decide) (by decide) (by decide) (by decide) (by decide) (by decide) (by decide) rfl
          · exact cJ 28 (by decide) (by decide) (by decide) (by decide) (by decide) (by decide) (by decide) (by decide) rfl
          · exact cJ 29 (by decide) (by decide) (by decide) (by decide) (by decide) (by decide) (by decide) (by decide) rfl
          · exact cJ 53 (by decide) (by decide) (by decide) (by decide) (by decide) (by decide) (by decide) (by decide) rfl
          · exact cJ 54 (by decide) (by decide) (by decide) (by decide) (by decide) (by decide) (by decide) (by decide) rfl
        · have cJ : ∀ c, c ≠ 1 → c ≠ 2 → c ≠ 3 → c ≠ 4 → c ≠ 5 → c ≠ 6 → c ≠ 34 → c ≠ 39 → cBk c = false → (sgU (sgU g2 39 n (nI b)) 34 6 (nI (n + 1))) c = g c := fun c a1 a2 a3 a4 a5 a6 a34 a39 hc => by funext j; rw [sg_k a34, sg_k a39, c2 c a1 a2 a3 a4 a5 a6 hc]
          refine hSh.fr (by rw [cJ 30 (by decide) (by decide) (by decide) (by decide) (by decide) (by decide) (by decide) (by decide) rfl]) (by rw [sg_j (by decide), sg_k (by decide), g34]) ?_ ?_ ?_ ?_ ?_ ?_
          · exact cJ 31 (by decide) (by decide) (by decide) (by decide) (by decide) (by decide) (by decide) (by decide) rfl
          · exact cJ 32 (by decide) (by decide) (by decide) (by decide) (by decide) (by decide) (by decide) (by decide) rfl
          · exact cJ 33 (by decide) (by decide) (by decide) (by decide) (by decide) (by decide) (by decide) (by decide) rfl
          · exact cJ 35 (by decide) (by decide) (by decide) (by decide) (by decide) (by decide) (by decide) (by decide) rfl
          · exact cJ 36 (by decide) (by decide) (by decide) (by decide) (by decide) (by decide) (by decide) (by decide) rfl
          · exact cJ 37 (by decide) (by decide) (by decide) (by decide) (by decide) (by decide) (by decide) (by decide) rfl
    · have hn79 : n = 79 := by omega
      refine brF (fun hx => h79 ((nI_ltI (a := n) (b := 79) (by omega) (by omega)).mp hx)) (Vm_type (brT hb ?_))
      rw [hM.1]
      exact brT (by rw [hn79]; rfl) (hQ _ _ hR)
  · exact Vx_type (brF hb (Vm_type (brF hb (hQ _ _ hR))))
theorem op_fault {g : Sg} {Q : Int32 → Int32 → Sg → Prop} (hR : Rel g) (hQ : ∀ r g', Rel g' → Q r r g') : Cx_fault g (fun r g1 => Cm_fault g1 (fun r' g2 => Q r r' g2)) := by
  obtain ⟨⟨bv, n, sh, tk, hd, m, f, t, hX⟩, hJ, hSh⟩ := id hR
  obtain ⟨hC, hM, hSet, hSt, hB⟩ := id hX
  refine Vx_fault (Vm_fault (Sm_reads hM _ (fun g' f1 f2 hN => ?_)))
  rw [hC.2.2.2.2.2.1]
  refine hQ _ _ (hR.sc (fun k j hk => ?_))
  by_cases h34 : k = 34
  · subst h34
    simp [scA] at hk
    exact f2 j (by omega) (by omega)
  · have h40 : k ≠ 40 := fun hx => by subst hx; simp [scA] at hk
    rw [f1 k h34 h40]
