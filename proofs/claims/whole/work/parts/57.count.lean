/-! count -/
noncomputable def cnt (N : Net) (n m d : Nat) (P : Nat → Int32) (mc sc : Nat) (lt x : Int32) : Int32 :=
  if x = 0 then nI N.1 else if x = 1 then nI n else if x = 2 then nI m else if x = 3 then nI d else if x = 4 then nI (popK 16 (lyn P)) else if x = 5 then nI mc else if x = 6 then nI sc else if x = 7 then nI (sm N.1 (nL N)) else if x = 8 then lt else -2
theorem cnt_out {N : Net} {n m d : Nat} {P : Nat → Int32} {mc sc : Nat} {lt x : Int32} (h : x.toInt < 0 ∨ 8 < x.toInt) : cnt N n m d P mc sc lt x = -2 := by
  unfold cnt
  rw [if_neg (fun e => by rw [e] at h; exact absurd h (by decide)), if_neg (fun e => by rw [e] at h; exact absurd h (by decide)), if_neg (fun e => by rw [e] at h; exact absurd h (by decide)), if_neg (fun e => by rw [e] at h; exact absurd h (by decide)), if_neg (fun e => by rw [e] at h; exact absurd h (by decide)), if_neg (fun e => by rw [e] at h; exact absurd h (by decide)), if_neg (fun e => by rw [e] at h; exact absurd h (by decide)), if_neg (fun e => by rw [e] at h; exact absurd h (by decide)), if_neg (fun e => by rw [e] at h; exact absurd h (by decide))]
theorem Sx_count {g : Sg} {bv : Nat → Nat} {n : Nat} {sh : Int32} {tk hd m : Nat} {f t : Nat → Int32} {mc sc : Nat} {x1 : Int32} {Q : Int32 → Sg → Prop} (hX : RelX g bv n sh tk hd m f t) (j1 : g 26 3 = nI mc) (j3 : g 26 4 = nI sc)
    (hq : Q (cnt (NT bv n) n m (dn (NT bv n) sh tk f t m) (pw (NT bv n) sh tk f t m) mc sc (g 30 3) x1) g) : Cx_count x1 g Q := by
  obtain ⟨hC, hM, hSet, hSt, hB⟩ := id hX
  have hm := hSt.2.2.1
  refine Vx_count ⟨fun h => ?_, fun h => ?_, fun h => ?_, fun h => ?_, fun h => ?_, fun h => ⟨?_, ?_⟩, fun h => ?_, fun h => ?_, fun h => ?_, fun h => ?_⟩
  · rw [cnt_out h] at hq; exact hq
  · subst h; rw [hC.net.2.1]; exact hq
  · subst h; rw [hC.1]; exact hq
  · subst h; rw [hSt.1]; exact hq
  · subst h; exact Sb_howManyDone hm hSt.1 hB hq
  · rw [hSt.1]; exact vp_in_nI (by omega) (by omega)
  · subst h
    rw [hSt.1, nI_clamp (show m < 2 ^ 31 by omega), (hB m (Nat.le_refl m)).1, (lyn_is _).2]
    exact Sk_bitCount (lyn_is _).1 hq
  · subst h; rw [j1]; exact hq
  · subst h; rw [j3]; exact hq
  · subst h; exact Sp_wholeLength hC.net hq
  · subst h; exact hq
theorem Sm_count {g : Sg} {bv : Nat → Nat} {n : Nat} {sh : Int32} {tk hd m : Nat} {f t : Nat → Int32} {mc sc : Nat} {x1 : Int32} {Q : Int32 → Sg → Prop} (hX : RelX g bv n sh tk hd m f t) (j2 : g 34 26 = nI mc) (j4 : g 34 28 = nI sc)
    (hq : ∀ g', Kp scA g g' → NM (NT bv n) g' → MG g' (pw (NT bv n) sh tk f t m) → Q (cnt (NT bv n) n m (dn (NT bv n) sh tk f t m) (pw (NT bv n) sh tk f t m) mc sc (g 34 4) x1) g') : Cm_count x1 g Q := by
  obtain ⟨hC, hM, hSet, hSt, hB⟩ := id hX
  refine Vm_count (hX.goesAll (fun g' hk hN hG h16 _ => ?_))
  have hq := hq g' hk hN hG
  refine ⟨fun h => ?_, fun h => ?_, fun h => ?_, fun h => ?_, fun h => ?_, fun h => ?_, fun h => ?_, fun h => ?_, fun h => ?_, fun h => ?_⟩
  · rw [cnt_out h] at hq; exact hq
  · subst h; rw [hN.2.1]; exact hq
  · subst h; rw [hk 34 6 rfl, hM.1]; exact hq
  · subst h; rw [hk 34 11 rfl, hSt.2.1]; exact hq
  · subst h; rw [h16]; exact hq
  · subst h
    rw [hG.1, (lyn_is _).2]
    exact Sm_ones (lyn_is _).1 hq
  · subst h; rw [hk 34 26 rfl, j2]; exact hq
  · subst h; rw [hk 34 28 rfl, j4]; exact hq
  · subst h; exact Sm_wholeLength hN hq
  · subst h; rw [hk 34 4 rfl]; exact hq
theorem op_count {x1 : Int32} {g : Sg} {Q : Int32 → Int32 → Sg → Prop} (hR : Rel g) (hQ : ∀ r g', Rel g' → Q r r g') : Cx_count x1 g (fun r g1 => Cm_count x1 g1 (fun r' g2 => Q r r' g2)) := by
  obtain ⟨⟨bv, n, sh, tk, hd, m, f, t, hX⟩, hJ, hSh⟩ := id hR
  obtain ⟨mc, sc, hmc, hsc, j1, j2, j3, j4, -, -⟩ := id hJ
  refine Sx_count hX j1 j3 (Sm_count hX j2 j4 (fun g' hk _ _ => ?_))
  rw [hSh.1]
  exact hQ _ _ (hR.sc hk)
