/-! write -/
theorem wrC {s c : Nat} {g0 : Sg} {Q : Int32 → Sg → Prop} (hs : s < 4) (hc : c ≤ 7) (hq : ∀ g', (∀ k, k ≠ 31 → g' k = g0 k) → (∀ x, g' 31 x = if s * 60 ≤ x ∧ x < s * 60 + c then nrw (g0 32 s) (g0 10 (x - s * 60)) else g0 31 x) → Q (nI c) g') :
    ∀ (d i : Nat) (g : Sg), i + d = c → (∀ k, k ≠ 31 → g k = g0 k) → (∀ x, g 31 x = if s * 60 ≤ x ∧ x < s * 60 + i then nrw (g0 32 s) (g0 10 (x - s * 60)) else g0 31 x) → Hx_write_77 (nI s) (nI c) (nI i) g Q := by
  intro d
  induction d with
  | zero =>
    intro i g hi hfr hx
    have hic : i = c := by omega
    subst hic
    exact Vx_write_77 (brT (nI_le (Nat.le_refl _) (by omega)) (hq g hfr hx))
  | succ d ih =>
    intro i g hi hfr hx
    obtain ⟨c1, c2⟩ := cl60 hs (show i < 60 by omega)
    refine Vx_write_77 (brF (nI_ge (by omega) (by omega)) ⟨vp_in_nI (by omega) (by omega), Vs_store ⟨vp_in_nI (by omega) (by omega), c2, ?_⟩⟩)
    rw [c1, nI_clamp (show s < 2 ^ 31 by omega), nI_clamp (show i < 2 ^ 31 by omega), hfr 32 (by decide), hfr 10 (by decide), nI_1]
    refine ih (i + 1) _ (by omega) (fun k hk => by funext j; rw [sg_k hk, hfr k hk]) (fun x => ?_)
    by_cases hxi : x = s * 60 + i
    · rw [hxi, sg_s, if_pos (by omega), show s * 60 + i - s * 60 = i by omega]
    · rw [sg_j hxi, hx x]
      by_cases hr : s * 60 ≤ x ∧ x < s * 60 + i
      · rw [if_pos hr, if_pos (by omega)]
      · rw [if_neg hr, if_neg (by omega)]
theorem wrM {s c : Nat} {g0 : Sg} {Q : Int32 → Sg → Prop} (hs : s < 4) (hc : c ≤ 7) (hq : ∀ g', (∀ k, k ≠ 37 → g' k = g0 k) → (∀ x, g' 37 x = if s * 60 ≤ x ∧ x < s * 60 + c then nrw (g0 35 s) (g0 46 (x - s * 60)) else g0 37 x) → Q (nI c) g') :
    ∀ (d i : Nat) (g : Sg), i + d = c → (∀ k, k ≠ 37 → g k = g0 k) → (∀ x, g 37 x = if s * 60 ≤ x ∧ x < s * 60 + i then nrw (g0 35 s) (g0 46 (x - s * 60)) else g0 37 x) → Hm_write_82 (nI s) (nI c) (nI i) g Q := by
  intro d
  induction d with
  | zero =>
    intro i g hi hfr hx
    have hic : i = c := by omega
    subst hic
    exact Vm_write_82 (brT (nI_le (Nat.le_refl _) (by omega)) (hq g hfr hx))
  | succ d ih =>
    intro i g hi hfr hx
    obtain ⟨c1, c2⟩ := cr60 hs (show i < 60 by omega)
    refine Vm_write_82 (brF (nI_ge (by omega) (by omega)) ⟨vp_in_nI (by omega) (by omega), vp_in_nI (by omega) (by omega), c2, ?_⟩)
    rw [c1, nI_clamp (show s < 2 ^ 31 by omega), nI_clamp (show i < 2 ^ 31 by omega), hfr 35 (by decide), hfr 46 (by decide), nI_1]
    refine ih (i + 1) _ (by omega) (fun k hk => by funext j; rw [sg_k hk, hfr k hk]) (fun x => ?_)
    by_cases hxi : x = s * 60 + i
    · rw [hxi, sg_s, if_pos (by omega), show s * 60 + i - s * 60 = i by omega]
    · rw [sg_j hxi, hx x]
      by_cases hr : s * 60 ≤ x ∧ x < s * 60 + i
      · rw [if_pos hr, if_pos (by omega)]
      · rw [if_neg hr, if_neg (by omega)]
theorem op_write {x1 x2 x3 : Int32} {g : Sg} {Q : Int32 → Int32 → Sg → Prop} (hR : Rel g) (hQ : ∀ r g', Rel g' → Q r r g') : Cx_write x1 x2 x3 g (fun r g1 => Cm_write x1 x2 x3 g1 (fun r' g2 => Q r r' g2)) := by
  obtain ⟨⟨bv, n, sh, tk, hd, m, f, t, hX⟩, hJ, hSh⟩ := id hR
  by_cases h1 : twoE x1 x2
  · by_cases hs : isS x3
    · obtain ⟨a, b, ha, hb, hab, rfl, rfl⟩ := twoE_of h1
      obtain ⟨s, hs4, rfl⟩ := isS_of hs
      have hin : vp_in (nI s) 4 := vp_in_nI hs4 (by omega)
      have hcl : (nI s).toNatClampNeg = s := nI_clamp (by omega)
      refine Vx_write (brT h1 (brT hs ⟨hin, ?_⟩))
      rw [hcl]
      rcases hSh.2 s hs4 with ⟨a1, a2⟩ | ⟨fo, ns, fo2, ns60, a1, a2, a3, a4, a5⟩
      · refine brT a1 (Vm_write (brT h1 (brT hs ⟨hin, ?_⟩)))
        rw [hcl, sg_k (by decide), a2]
        exact brF ng1 (hQ _ _ (hR.sh (Kp.find g 1) (hSh.find 1)))
      · refine brF (by rw [a1]; exact nI_m1 (by omega)) (hX.cway ha hb hab (fun g1 hf1 hrow => ?_))
        have hk1 : Kp scA g g1 := fun k j hk => by
          rw [hf1 k (fun hx => by subst hx; simp [scA] at hk) (fun hx => by subst hx; simp [scA] at hk) (fun hx => by subst hx; simp [scA] at hk) (fun hx => by subst hx; simp [scA] at hk)]
        obtain ⟨w1, w2, w3, -⟩ := way_ok hX.1.net.1 (opn sh tk (pw (NT bv n) sh tk f t m)) ha hb
        have fin : ∀ (r : Int32) (g2 : Sg), Kp cSh g1 g2 → g2 35 = g1 35 → g2 36 = g1 36 → (∀ g', Kp scA g2 g' → WayAt g' (way (NT bv n) (opn sh tk (pw (NT bv n) sh tk f t m)) a b) → ((way (NT bv n) (opn sh tk (pw (NT bv n) sh tk f t m)) a b = [] → Q r 0 g') ∧ (way (NT bv n) (opn sh tk (pw (NT bv n) sh tk f t m)) a b ≠ [] → Hm_write_82 (nI s) (nI (if ns ≤ (way (NT bv n) (opn sh tk (pw (NT bv n) sh tk f t m)) a b).length then ns else (way (NT bv n) (opn sh tk (pw (NT bv n) sh tk f t m)) a b).length)) 0 g' (fun r' g2 => Q r r' g2)))) → Cm_write (nI a) (nI b) (nI s) g2 (fun r' g2 => Q r r' g2) := by
          intro r g2 hk2 e35 e36 hr
          have hX2 : RelX g2 bv n sh tk hd m f t := (hX.sc hk1).sh hk2
          have b2 : g2 35 s = nI fo := by rw [e35, hk1 35 s rfl]; exact a2
          have b4 : g2 36 s = nI ns := by rw [e36, hk1 36 s rfl]; exact a4
          refine Vm_write (brT h1 (brT hs ⟨hin, ?_⟩))
          rw [hcl, b2]
          refine brT (nI_pos' (by omega)) (hX2.goesAll (fun g3 hk3 hN3 hG3 _ _ => hX2.mway hk3 hN3 hG3 ha hb hab (fun g4 hf4 hw4 => ?_)))
          have hk4 : Kp scA g2 g4 := hk3.tr (fun k j hk => by rw [hf4 k (fun hx => by subst hx; simp [scA] at hk) (fun hx => by subst hx; simp [scA] at hk)])
          obtain ⟨q1, q2⟩ := hr g4 hk4 hw4
          refine ⟨fun he => brT rfl (Vm_write_82 (brT (by decide) (q1 he))), fun he _ => brF (nI_m1 (by omega)) ⟨hin, ?_⟩⟩
          rw [hk4 36 s rfl, b4]
          have q3 := q2 he
          by_cases hle : ns ≤ (way (NT bv n) (opn sh tk (pw (NT bv n) sh tk f t m)) a b).length
          · rw [if_pos hle] at q3
            exact brT (nI_le hle (by omega)) ⟨hin, q3⟩
          · rw [if_neg hle] at q3
            exact brF (fun hx => hle ((nI_leI (by omega) (by omega)).mp hx)) q3
        obtain ⟨W, hW⟩ : ∃ W, W = way (NT bv n) (opn sh tk (pw (NT bv n) sh tk f t m)) a b := ⟨_, rfl⟩
        rw [← hW] at hrow w1 w2 w3 fin ⊢
        refine ⟨fun he => brT rfl (fin 0 g1 (Kp.rf _ _) rfl rfl (fun g' hk' _ => ⟨fun _ => hQ _ _ ((hR.sc hk1).sc hk'), fun hne => absurd he hne⟩)), fun he => brF (by decide) ⟨hin, ?_⟩⟩
        have e33 : g1 33 s = nI ns := by rw [hk1 33 s rfl]; exact a3
        have hmin : (if (g1 33 s) < (g1 7 4) then (g1 33 s) else (g1 7 4)) = nI (if ns ≤ W.length then ns else W.length) := by
          rw [e33, hrow.1]
          by_cases hlt : ns < W.length
          · rw [if_pos (nI_lt hlt (by omega)), if_pos (by omega)]
          · rw [if_neg (nI_nlt (by omega) (by omega))]
            by_cases hle : ns ≤ W.length
            · rw [if_pos hle, show ns = W.length by omega]
            · rw [if_neg hle]
        rw [hmin]
        obtain ⟨c, hc⟩ : ∃ c, c = (if ns ≤ W.length then ns else W.length) := ⟨_, rfl⟩
        have hc7 : c ≤ W.length ∧ c ≤ ns := by rw [hc]; split <;> omega
        rw [← hc] at fin ⊢
        refine wrC (g0 := g1) hs4 (by omega) (fun g2 hf2 h31 => ?_) c 0 g1 (by omega) (fun _ _ => rfl) (fun x => by rw [if_neg (by omega)])
        have hk2 : Kp cSh g1 g2 := fun k j hk => by rw [hf2 k (fun hx => by subst hx; simp [cSh] at hk)]
        refine fin _ g2 hk2 (hf2 35 (by decide)) (hf2 36 (by decide)) (fun g3 hk3 hw3 => ⟨fun h0 => absurd h0 he, fun _ => ?_⟩)
        refine wrM (g0 := g3) hs4 (by omega) (fun g4 hf4 h37 => ?_) c 0 g3 (by omega) (fun _ _ => rfl) (fun x => by rw [if_neg (by omega)])
        have hk4 : Kp cSh g3 g4 := fun k j hk => by rw [hf4 k (fun hx => by subst hx; simp [cSh] at hk)]
        have r31 : ∀ x, g4 31 x = g2 31 x := fun x => by rw [hf4 31 (by decide)]; exact hk3 31 x rfl
        have r37 : ∀ x, g3 37 x = g 37 x := fun x => by rw [hk3 37 x rfl, hf2 37 (by decide)]; exact hk1 37 x rfl
        have c32 : ∀ x, g4 32 x = g 32 x := fun x => by rw [hf4 32 (by decide), hk3 32 x rfl, hf2 32 (by decide)]; exact hk1 32 x rfl
        have c33 : ∀ x, g4 33 x = g 33 x := fun x => by rw [hf4 33 (by decide), hk3 33 x rfl, hf2 33 (by decide)]; exact hk1 33 x rfl
        have c35 : ∀ x, g4 35 x = g 35 x := fun x => by rw [hf4 35 (by decide), hk3 35 x rfl, hf2 35 (by decide)]; exact hk1 35 x rfl
        have c36 : ∀ x, g4 36 x = g 36 x := fun x => by rw [hf4 36 (by decide), hk3 36 x rfl, hf2 36 (by decide)]; exact hk1 36 x rfl
        have hRS : RS g4 := by
          refine ⟨?_, fun s' hs' => ?_⟩
          · rw [hf4 30 (by decide), hf4 34 (by decide), hk3 30 3 rfl, hk3 34 4 rfl, hf2 30 (by decide), hf2 34 (by decide), hk1 30 3 rfl, hk1 34 4 rfl]; exact hSh.1
          · by_cases e : s' = s
            · subst e
              right
              refine ⟨fo, ns, fo2, ns60, by rw [c32]; exact a1, by rw [c35]; exact a2, by rw [c33]; exact a3, by rw [c36]; exact a4, fun i hi => ?_⟩
              rw [r31, h31, h37]
              by_cases hic : i < c
              · rw [if_pos (by omega), if_pos (by omega), show s' * 60 + i - s' * 60 = i by omega, hrow.2 i (by omega), hw3 i (by omega), hk1 32 s' rfl, a1, hk3 35 s' rfl, hf2 35 (by decide), hk1 35 s' rfl, a2]
              · rw [if_neg (by omega), if_neg (by omega), r37, hk1 31 _ rfl]
                exact a5 i hi
            · refine (hSh.2 s' hs').of (c32 _) (c35 _) (c33 _) (c36 _) (fun i hi => ?_) (fun i hi => ?_)
              · rw [r31, h31, if_neg (by omega)]; exact hk1 31 _ rfl
              · rw [h37, if_neg (by omega), r37]
        obtain ⟨hX0, hJ0, -⟩ := id (hR.sc hk1)
        have hX4 : RelX g4 bv n sh tk hd m f t := (((hX.sc hk1).sh hk2).sc hk3).sh hk4
        have hJ4 : RJ g4 := by
          have z : ∀ c, c ≠ 31 → c ≠ 37 → (∀ j, scA c j = false) → g4 c = g1 c := fun c h31 h37 hj => by rw [hf4 c h37, hk3.cell c hj, hf2 c h31]
          refine hJ0.fr (z 26 (by decide) (by decide) (fun _ => rfl)) ?_ ?_ (z 27 (by decide) (by decide) (fun _ => rfl)) (z 28 (by decide) (by decide) (fun _ => rfl)) (z 29 (by decide) (by decide) (fun _ => rfl)) (z 53 (by decide) (by decide) (fun _ => rfl)) (z 54 (by decide) (by decide) (fun _ => rfl))
          · rw [hf4 34 (by decide), hk3 34 26 rfl, hf2 34 (by decide)]
          · rw [hf4 34 (by decide), hk3 34 28 rfl, hf2 34 (by decide)]
        exact hQ _ _ ⟨⟨bv, n, sh, tk, hd, m, f, t, hX4⟩, hJ4, hRS⟩
    · exact Vx_write (brT h1 (brF hs (Vm_write (brT h1 (brF hs (hQ _ _ hR))))))
  · exact Vx_write (brF h1 (Vm_write (brF h1 (hQ _ _ hR))))
