abbrev Cb_afterPull (x1 : Int32) (x2 : Int32) (g : Sg) (Q : Int32 → Sg → Prop) : Prop := Ci Mb_afterPull [.ref 11, .int x1, .int x2] g Q
abbrev Hb_afterPull_14 (x1 : Int32) (x2 : Int32) (x3 : Int32) (g : Sg) (Q : Int32 → Sg → Prop) : Prop := Hi Mb_afterPull 14 [some (.ref 11), some (.int x1), some (.int x2), some (.int x3)] [] g Q
set_option maxRecDepth 20000 in
theorem Vb_afterPull {x1 : Int32} {x2 : Int32} {g : Sg} {Q : Int32 → Sg → Prop} (h : (((tbb x2 x1 = true) → Hb_afterPull_14 x1 x2 (x1 + 1) g Q) ∧ (¬ (tbb x2 x1 = true) → Q x2 g))) : Cb_afterPull x1 x2 g Q := by
  refine Cl.of 1 pl_X0 rfl ?_
  refine e_iload_n (dx D_b_afterPull 0 rfl) rfl ?_
  refine e_iload_n (dx D_b_afterPull 1 rfl) rfl ?_
  refine e_callSNi (Q1 := fun r g' => bP (tbb x2 x1 = true) = r ∧ g = g') (rest := []) [.int x2, .int x1] (dx D_b_afterPull 2 rfl) ln_b_afterPull_65 rfl rfl (Nat.le_of_ble_eq_true rfl) (Ix_hasBit  ⟨rfl, rfl⟩) (fun r g' hh => ?_)
  obtain ⟨rfl, rfl⟩ := hh
  refine e_if_ne (tgt := 10) (dx D_b_afterPull 3 rfl) (by decide) (fun c => ?_) (fun c => ?_)
  · replace h := h.1 (bP_n c)
    refine e_iload_n (dx D_b_afterPull 6 rfl) rfl ?_
    refine q_iconst (v := 1) (dx D_b_afterPull 7 rfl) (by decide) ?_
    refine e_iadd (dx D_b_afterPull 8 rfl) ?_
    refine q_istore_n (L' := [some (.ref 11), some (.int x1), some (.int x2), some (.int (x1 + 1))]) (dx D_b_afterPull 9 rfl) (by decide) rfl ?_
    exact h
  · replace h := h.2 (bP_z c)
    refine e_iload_n (dx D_b_afterPull 4 rfl) rfl ?_
    exact e_iret (dx D_b_afterPull 5 rfl) rfl rfl ⟨_, rfl, h⟩
set_option maxRecDepth 20000 in
theorem Vb_afterPull_14 {x1 : Int32} {x2 : Int32} {x3 : Int32} {g : Sg} {Q : Int32 → Sg → Prop} (h : ((16 ≤ x3 → Q (x2 &&& ((sb x1) ^^^ (-1))) g) ∧ (¬ 16 ≤ x3 → (((tbb x2 x3 = true) → vp_in x3 16 ∧ vp_in x1 16 ∧ ((((g 15 (x3).toNatClampNeg) &&& (g 15 (x1).toNatClampNeg)) = 0 → Hb_afterPull_14 x1 x2 (x3 + 1) g Q) ∧ (¬ ((g 15 (x3).toNatClampNeg) &&& (g 15 (x1).toNatClampNeg)) = 0 → Q x2 g))) ∧ (¬ (tbb x2 x3 = true) → Hb_afterPull_14 x1 x2 (x3 + 1) g Q))))) : Hb_afterPull_14 x1 x2 x3 g Q := by
  refine e_iload_n (dx D_b_afterPull 10 rfl) rfl ?_
  refine q_bipush (v := 16) (dx D_b_afterPull 11 rfl) (by decide) ?_
  refine e_icmp_ge (tgt := 52) (dx D_b_afterPull 12 rfl) (by decide) (fun c => ?_) (fun c => ?_)
  · replace h := h.1 c
    refine e_iload_n (dx D_b_afterPull 31 rfl) rfl ?_
    refine e_iload_n (dx D_b_afterPull 32 rfl) rfl ?_
    refine e_callSNi (Q1 := fun r g' => (sb x1) = r ∧ g = g') (rest := [.int x2]) [.int x1] (dx D_b_afterPull 33 rfl) ln_b_afterPull_62 rfl rfl (Nat.le_of_ble_eq_true rfl) (Ix_bit  ⟨rfl, rfl⟩) (fun r g' hh => ?_)
    obtain ⟨rfl, rfl⟩ := hh
    refine q_iconst (v := (-1)) (dx D_b_afterPull 34 rfl) (by decide) ?_
    refine e_ixor (dx D_b_afterPull 35 rfl) ?_
    refine e_iand (dx D_b_afterPull 36 rfl) ?_
    exact e_iret (dx D_b_afterPull 37 rfl) rfl rfl ⟨_, rfl, h⟩
  · replace h := h.2 c
    refine e_iload_n (dx D_b_afterPull 13 rfl) rfl ?_
    refine e_iload_n (dx D_b_afterPull 14 rfl) rfl ?_
    refine e_callSNi (Q1 := fun r g' => bP (tbb x2 x3 = true) = r ∧ g = g') (rest := []) [.int x2, .int x3] (dx D_b_afterPull 15 rfl) ln_b_afterPull_65 rfl rfl (Nat.le_of_ble_eq_true rfl) (Ix_hasBit  ⟨rfl, rfl⟩) (fun r g' hh => ?_)
    obtain ⟨rfl, rfl⟩ := hh
    refine e_if_eq (tgt := 46) (dx D_b_afterPull 16 rfl) (by decide) (fun c => ?_) (fun c => ?_)
    · replace h := h.2 (bP_z c)
      refine q_iinc (d := 1) (L' := [some (.ref 11), some (.int x1), some (.int x2), some (.int (x3 + 1))]) (dx D_b_afterPull 29 rfl) rfl (by decide) (by decide) rfl ?_
      refine e_goto (tgt := 14) (dx D_b_afterPull 30 rfl) (by decide) ?_
      exact h
    · replace h := h.1 (bP_n c)
      refine e_aload_n (dx D_b_afterPull 17 rfl) rfl ?_
      refine e_getR (dx D_b_afterPull 18 rfl) fl_RX0_21 rfl rfl ?_
      refine e_iload_n (dx D_b_afterPull 19 rfl) rfl ?_
      obtain ⟨hb1, h⟩ := h
      refine e_iald (dx D_b_afterPull 20 rfl) rfl hb1 ?_
      refine e_aload_n (dx D_b_afterPull 21 rfl) rfl ?_
      refine e_getR (dx D_b_afterPull 22 rfl) fl_RX0_21 rfl rfl ?_
      refine e_iload_n (dx D_b_afterPull 23 rfl) rfl ?_
      obtain ⟨hb2, h⟩ := h
      refine e_iald (dx D_b_afterPull 24 rfl) rfl hb2 ?_
      refine e_iand (dx D_b_afterPull 25 rfl) ?_
      refine e_if_eq (tgt := 46) (dx D_b_afterPull 26 rfl) (by decide) (fun c => ?_) (fun c => ?_)
      · replace h := h.1 c
        refine q_iinc (d := 1) (L' := [some (.ref 11), some (.int x1), some (.int x2), some (.int (x3 + 1))]) (dx D_b_afterPull 29 rfl) rfl (by decide) (by decide) rfl ?_
        refine e_goto (tgt := 14) (dx D_b_afterPull 30 rfl) (by decide) ?_
        exact h
      · replace h := h.2 c
        refine e_iload_n (dx D_b_afterPull 27 rfl) rfl ?_
        exact e_iret (dx D_b_afterPull 28 rfl) rfl rfl ⟨_, rfl, h⟩
abbrev Cb_fillLoad (x1 : Int32) (g : Sg) (Q : Sg → Prop) : Prop := Cv Mb_fillLoad [.ref 11, .int x1] g Q
abbrev Hb_fillLoad_13 (x1 : Int32) (x2 : Int32) (g : Sg) (Q : Sg → Prop) : Prop := Hv Mb_fillLoad 13 [some (.ref 11), some (.int x1), some (.int x2), none, none] [] g Q
abbrev Hb_fillLoad_29 (x1 : Int32) (x2 : Int32) (x3 : Int32) (x4 : Int32) (g : Sg) (Q : Sg → Prop) : Prop := Hv Mb_fillLoad 29 [some (.ref 11), some (.int x1), some (.int x2), some (.int x3), some (.int x4)] [] g Q
set_option maxRecDepth 20000 in
theorem Vb_fillLoad {x1 : Int32} {g : Sg} {Q : Sg → Prop} (h : Ck_fill 8 0 g (fun g1 => Hb_fillLoad_13 x1 0 g1 Q)) : Cb_fillLoad x1 g Q := by
  refine Cl.of 3 pl_X0 rfl ?_
  refine e_aload_n (dx D_b_fillLoad 0 rfl) rfl ?_
  refine e_getR (dx D_b_fillLoad 1 rfl) fl_RX0_24 rfl rfl ?_
  refine e_getR (dx D_b_fillLoad 2 rfl) fl_RX0_87 rfl rfl ?_
  refine q_iconst (v := 0) (dx D_b_fillLoad 3 rfl) (by decide) ?_
  refine e_callSv (rest := []) [.ref 8, .int 0] (dx D_b_fillLoad 4 rfl) ln_b_fillLoad_90 rfl rfl (Nat.le_of_ble_eq_true rfl) h (fun g1 h => ?_)
  refine q_iconst (v := 0) (dx D_b_fillLoad 5 rfl) (by decide) ?_
  refine q_istore_n (L' := [some (.ref 11), some (.int x1), some (.int 0), none, none]) (dx D_b_fillLoad 6 rfl) (by decide) rfl ?_
  exact h
set_option maxRecDepth 20000 in
theorem Vb_fillLoad_13 {x1 : Int32} {x2 : Int32} {g : Sg} {Q : Sg → Prop} (h : ((16 ≤ x2 → Q g) ∧ (¬ 16 ≤ x2 → vp_in x2 16 ∧ Hb_fillLoad_29 x1 x2 (if tbb x1 x2 = true then g 15 (x2).toNatClampNeg else 0) 0 g Q))) : Hb_fillLoad_13 x1 x2 g Q := by
  refine e_iload_n (dx D_b_fillLoad 7 rfl) rfl ?_
  refine q_bipush (v := 16) (dx D_b_fillLoad 8 rfl) (by decide) ?_
  refine e_icmp_ge (tgt := 71) (dx D_b_fillLoad 9 rfl) (by decide) (fun c => ?_) (fun c => ?_)
  · replace h := h.1 c
    exact e_vret (dx D_b_fillLoad 39 rfl) rfl ⟨rfl, h⟩
  · replace h := h.2 c
    refine e_aload_n (dx D_b_fillLoad 10 rfl) rfl ?_
    refine e_iload_n (dx D_b_fillLoad 11 rfl) rfl ?_
    refine e_iload_n (dx D_b_fillLoad 12 rfl) rfl ?_
    obtain ⟨hb1, h⟩ := h
    refine e_callVi (Q1 := fun r g' => (if tbb x1 x2 = true then g 15 (x2).toNatClampNeg else 0) = r ∧ g = g') (rest := []) [.int x2, .int x1] (dx D_b_fillLoad 13 rfl) ln_b_fillLoad_72 rfl rfl rfl (Nat.le_of_ble_eq_true rfl) (Ib_pipesOf hb1 ⟨rfl, rfl⟩) (fun r g' hh => ?_)
    obtain ⟨rfl, rfl⟩ := hh
    refine q_istore_n (L' := [some (.ref 11), some (.int x1), some (.int x2), some (.int (if tbb x1 x2 = true then g 15 (x2).toNatClampNeg else 0)), none]) (dx D_b_fillLoad 14 rfl) (by decide) rfl ?_
    refine q_iconst (v := 0) (dx D_b_fillLoad 15 rfl) (by decide) ?_
    refine q_istore (L' := [some (.ref 11), some (.int x1), some (.int x2), some (.int (if tbb x1 x2 = true then g 15 (x2).toNatClampNeg else 0)), some (.int 0)]) (dx D_b_fillLoad 16 rfl) (by decide) rfl ?_
    exact h
set_option maxRecDepth 20000 in
theorem Vb_fillLoad_29 {x1 : Int32} {x2 : Int32} {x3 : Int32} {x4 : Int32} {g : Sg} {Q : Sg → Prop} (h : ((x3 = 0 → Hb_fillLoad_13 x1 (x2 + 1) g Q) ∧ (¬ x3 = 0 → ((16 ≤ x4 → Hb_fillLoad_13 x1 (x2 + 1) g Q) ∧ (¬ 16 ≤ x4 → vp_in x4 16 ∧ vp_in x4 16 ∧ Hb_fillLoad_29 x1 x2 x3 (x4 + 1) (sgU g 8 (x4).toNatClampNeg ((g 8 (x4).toNatClampNeg) + ((x3 >>> (x4 &&& 31)) &&& 1))) Q))))) : Hb_fillLoad_29 x1 x2 x3 x4 g Q := by
  refine e_iload_n (dx D_b_fillLoad 17 rfl) rfl ?_
  refine e_if_eq (tgt := 65) (dx D_b_fillLoad 18 rfl) (by decide) (fun c => ?_) (fun c => ?_)
  · replace h := h.1 c
    refine q_iinc (d := 1) (L' := [some (.ref 11), some (.int x1), some (.int (x2 + 1)), some (.int x3), some (.int x4)]) (dx D_b_fillLoad 37 rfl) rfl (by decide) (by decide) rfl ?_
    refine e_goto (tgt := 13) (dx D_b_fillLoad 38 rfl) (by decide) ?_
    exact Wp.mask [true, true, true, false, false] h
  · replace h := h.2 c
    refine e_iload (dx D_b_fillLoad 19 rfl) rfl ?_
    refine q_bipush (v := 16) (dx D_b_fillLoad 20 rfl) (by decide) ?_
    refine e_icmp_ge (tgt := 65) (dx D_b_fillLoad 21 rfl) (by decide) (fun c => ?_) (fun c => ?_)
    · replace h := h.1 c
      refine q_iinc (d := 1) (L' := [some (.ref 11), some (.int x1), some (.int (x2 + 1)), some (.int x3), some (.int x4)]) (dx D_b_fillLoad 37 rfl) rfl (by decide) (by decide) rfl ?_
      refine e_goto (tgt := 13) (dx D_b_fillLoad 38 rfl) (by decide) ?_
      exact Wp.mask [true, true, true, false, false] h
    · replace h := h.2 c
      refine e_aload_n (dx D_b_fillLoad 22 rfl) rfl ?_
      refine e_getR (dx D_b_fillLoad 23 rfl) fl_RX0_24 rfl rfl ?_
      refine e_getR (dx D_b_fillLoad 24 rfl) fl_RX0_87 rfl rfl ?_
      refine e_iload (dx D_b_fillLoad 25 rfl) rfl ?_
      refine e_dup2 (dx D_b_fillLoad 26 rfl) rfl rfl ?_
      obtain ⟨hb1, h⟩ := h
      refine e_iald (dx D_b_fillLoad 27 rfl) rfl hb1 ?_
      refine e_iload_n (dx D_b_fillLoad 28 rfl) rfl ?_
      refine e_iload (dx D_b_fillLoad 29 rfl) rfl ?_
      refine e_ishr (dx D_b_fillLoad 30 rfl) ?_
      refine q_iconst (v := 1) (dx D_b_fillLoad 31 rfl) (by decide) ?_
      refine e_iand (dx D_b_fillLoad 32 rfl) ?_
      refine e_iadd (dx D_b_fillLoad 33 rfl) ?_
      obtain ⟨hb2, h⟩ := h
      refine e_iast (dx D_b_fillLoad 34 rfl) rfl hb2 ?_
      refine q_iinc (d := 1) (L' := [some (.ref 11), some (.int x1), some (.int x2), some (.int x3), some (.int (x4 + 1))]) (dx D_b_fillLoad 35 rfl) rfl (by decide) (by decide) rfl ?_
      refine e_goto (tgt := 29) (dx D_b_fillLoad 36 rfl) (by decide) ?_
      exact h
abbrev Cw_shorten (x1 : Int32) (g : Sg) (Q : Int32 → Sg → Prop) : Prop := Ci Mw_shorten [.ref 7, .int x1] g Q
set_option maxRecDepth 20000 in
theorem Vw_shorten {x1 : Int32} {g : Sg} {Q : Int32 → Sg → Prop} (h : vp_in x1 16 ∧ vp_in x1 16 ∧ vp_in x1 16 ∧ vp_in (g 3 (x1).toNatClampNeg) 8 ∧ vp_in (g 4 (x1).toNatClampNeg) 8 ∧ (((g 9 (g 4 (x1).toNatClampNeg).toNatClampNeg) ≤ ((g 9 (g 3 (x1).toNatClampNeg).toNatClampNeg) + (g 5 (x1).toNatClampNeg)) → vp_in (g 4 (x1).toNatClampNeg) 8 ∧ vp_in (g 3 (x1).toNatClampNeg) 8 ∧ (((g 9 (g 3 (x1).toNatClampNeg).toNatClampNeg) ≤ ((g 9 (g 4 (x1).toNatClampNeg).toNatClampNeg) + (g 5 (x1).toNatClampNeg)) → Q 0 g) ∧ (¬ (g 9 (g 3 (x1).toNatClampNeg).toNatClampNeg) ≤ ((g 9 (g 4 (x1).toNatClampNeg).toNatClampNeg) + (g 5 (x1).toNatClampNeg)) → vp_in (g 4 (x1).toNatClampNeg) 8 ∧ vp_in (g 3 (x1).toNatClampNeg) 8 ∧ Q 1 (sgU g 9 (g 3 (x1).toNatClampNeg).toNatClampNeg ((g 9 (g 4 (x1).toNatClampNeg).toNatClampNeg) + (g 5 (x1).toNatClampNeg)))))) ∧ (¬ (g 9 (g 4 (x1).toNatClampNeg).toNatClampNeg) ≤ ((g 9 (g 3 (x1).toNatClampNeg).toNatClampNeg) + (g 5 (x1).toNatClampNeg)) → vp_in (g 3 (x1).toNatClampNeg) 8 ∧ vp_in (g 4 (x1).toNatClampNeg) 8 ∧ Q 1 (sgU g 9 (g 4 (x1).toNatClampNeg).toNatClampNeg ((g 9 (g 3 (x1).toNatClampNeg).toNatClampNeg) + (g 5 (x1).toNatClampNeg)))))) : Cw_shorten x1 g Q := by
  refine Cl.of 3 pl_X7 rfl ?_
  refine e_aload_n (dx D_w_shorten 0 rfl) rfl ?_
  refine e_getR (dx D_w_shorten 1 rfl) fl_RX7_21 rfl rfl ?_
  refine e_getR (dx D_w_shorten 2 rfl) fl_RX7_65 rfl rfl ?_
  refine e_iload_n (dx D_w_shorten 3 rfl) rfl ?_
  obtain ⟨hb1, h⟩ := h
  refine e_iald (dx D_w_shorten 4 rfl) rfl hb1 ?_
  refine q_istore_n (L' := [some (.ref 7), some (.int x1), some (.int (g 3 (x1).toNatClampNeg)), none, none]) (dx D_w_shorten 5 rfl) (by decide) rfl ?_
  refine e_aload_n (dx D_w_shorten 6 rfl) rfl ?_
  refine e_getR (dx D_w_shorten 7 rfl) fl_RX7_21 rfl rfl ?_
  refine e_getR (dx D_w_shorten 8 rfl) fl_RX7_68 rfl rfl ?_
  refine e_iload_n (dx D_w_shorten 9 rfl) rfl ?_
  obtain ⟨hb2, h⟩ := h
  refine e_iald (dx D_w_shorten 10 rfl) rfl hb2 ?_
  refine q_istore_n (L' := [some (.ref 7), some (.int x1), some (.int (g 3 (x1).toNatClampNeg)), some (.int (g 4 (x1).toNatClampNeg)), none]) (dx D_w_shorten 11 rfl) (by decide) rfl ?_
  refine e_aload_n (dx D_w_shorten 12 rfl) rfl ?_
  refine e_getR (dx D_w_shorten 13 rfl) fl_RX7_21 rfl rfl ?_
  refine e_getR (dx D_w_shorten 14 rfl) fl_RX7_71 rfl rfl ?_
  refine e_iload_n (dx D_w_shorten 15 rfl) rfl ?_
  obtain ⟨hb3, h⟩ := h
  refine e_iald (dx D_w_shorten 16 rfl) rfl hb3 ?_
  refine q_istore (L' := [some (.ref 7), some (.int x1), some (.int (g 3 (x1).toNatClampNeg)), some (.int (g 4 (x1).toNatClampNeg)), some (.int (g 5 (x1).toNatClampNeg))]) (dx D_w_shorten 17 rfl) (by decide) rfl ?_
  refine e_aload_n (dx D_w_shorten 18 rfl) rfl ?_
  refine e_getR (dx D_w_shorten 19 rfl) fl_RX7_15 rfl rfl ?_
  refine e_iload_n (dx D_w_shorten 20 rfl) rfl ?_
  obtain ⟨hb4, h⟩ := h
  refine e_iald (dx D_w_shorten 21 rfl) rfl hb4 ?_
  refine e_iload (dx D_w_shorten 22 rfl) rfl ?_
  refine e_iadd (dx D_w_shorten 23 rfl) ?_
  refine e_aload_n (dx D_w_shorten 24 rfl) rfl ?_
  refine e_getR (dx D_w_shorten 25 rfl) fl_RX7_15 rfl rfl ?_
  refine e_iload_n (dx D_w_shorten 26 rfl) rfl ?_
  obtain ⟨hb5, h⟩ := h
  refine e_iald (dx D_w_shorten 27 rfl) rfl hb5 ?_
  refine e_icmp_ge (tgt := 66) (dx D_w_shorten 28 rfl) (by decide) (fun c => ?_) (fun c => ?_)
  · replace h := h.1 c
    refine e_aload_n (dx D_w_shorten 41 rfl) rfl ?_
    refine e_getR (dx D_w_shorten 42 rfl) fl_RX7_15 rfl rfl ?_
    refine e_iload_n (dx D_w_shorten 43 rfl) rfl ?_
    obtain ⟨hb6, h⟩ := h
    refine e_iald (dx D_w_shorten 44 rfl) rfl hb6 ?_
    refine e_iload (dx D_w_shorten 45 rfl) rfl ?_
    refine e_iadd (dx D_w_shorten 46 rfl) ?_
    refine e_aload_n (dx D_w_shorten 47 rfl) rfl ?_
    refine e_getR (dx D_w_shorten 48 rfl) fl_RX7_15 rfl rfl ?_
    refine e_iload_n (dx D_w_shorten 49 rfl) rfl ?_
    obtain ⟨hb7, h⟩ := h
    refine e_iald (dx D_w_shorten 50 rfl) rfl hb7 ?_
    refine e_icmp_ge (tgt := 101) (dx D_w_shorten 51 rfl) (by decide) (fun c => ?_) (fun c => ?_)
    · replace h := h.1 c
      refine q_iconst (v := 0) (dx D_w_shorten 64 rfl) (by decide) ?_
      exact e_iret (dx D_w_shorten 65 rfl) rfl (by decide) ⟨_, rfl, h⟩
    · replace h := h.2 c
      refine e_aload_n (dx D_w_shorten 52 rfl) rfl ?_
      refine e_getR (dx D_w_shorten 53 rfl) fl_RX7_15 rfl rfl ?_
      refine e_iload_n (dx D_w_shorten 54 rfl) rfl ?_
      refine e_aload_n (dx D_w_shorten 55 rfl) rfl ?_
      refine e_getR (dx D_w_shorten 56 rfl) fl_RX7_15 rfl rfl ?_
      refine e_iload_n (dx D_w_shorten 57 rfl) rfl ?_
      obtain ⟨hb8, h⟩ := h
      refine e_iald (dx D_w_shorten 58 rfl) rfl hb8 ?_
      refine e_iload (dx D_w_shorten 59 rfl) rfl ?_
      refine e_iadd (dx D_w_shorten 60 rfl) ?_
      obtain ⟨hb9, h⟩ := h
      refine e_iast (dx D_w_shorten 61 rfl) rfl hb9 ?_
      refine q_iconst (v := 1) (dx D_w_shorten 62 rfl) (by decide) ?_
      exact e_iret (dx D_w_shorten 63 rfl) rfl (by decide) ⟨_, rfl, h⟩
  · replace h := h.2 c
    refine e_aload_n (dx D_w_shorten 29 rfl) rfl ?_
    refine e_getR (dx D_w_shorten 30 rfl) fl_RX7_15 rfl rfl ?_
    refine e_iload_n (dx D_w_shorten 31 rfl) rfl ?_
    refine e_aload_n (dx D_w_shorten 32 rfl) rfl ?_
    refine e_getR (dx D_w_shorten 33 rfl) fl_RX7_15 rfl rfl ?_
    refine e_iload_n (dx D_w_shorten 34 rfl) rfl ?_
    obtain ⟨hb10, h⟩ := h
    refine e_iald (dx D_w_shorten 35 rfl) rfl hb10 ?_
    refine e_iload (dx D_w_shorten 36 rfl) rfl ?_
    refine e_iadd (dx D_w_shorten 37 rfl) ?_
    obtain ⟨hb11, h⟩ := h
    refine e_iast (dx D_w_shorten 38 rfl) rfl hb11 ?_
    refine q_iconst (v := 1) (dx D_w_shorten 39 rfl) (by decide) ?_
    exact e_iret (dx D_w_shorten 40 rfl) rfl (by decide) ⟨_, rfl, h⟩
abbrev Cw_measure (x1 : Int32) (g : Sg) (Q : Sg → Prop) : Prop := Cv Mw_measure [.ref 7, .int x1] g Q
abbrev Hw_measure_21 (x2 : Int32) (x3 : Int32) (g : Sg) (Q : Sg → Prop) : Prop := Hv Mw_measure 21 [some (.ref 7), none, some (.int x2), some (.int x3), none] [] g Q
abbrev Hw_measure_36 (x2 : Int32) (x3 : Int32) (x4 : Int32) (g : Sg) (Q : Sg → Prop) : Prop := Hv Mw_measure 36 [some (.ref 7), none, some (.int x2), some (.int x3), some (.int x4)] [] g Q
set_option maxRecDepth 20000 in
theorem Vw_measure {x1 : Int32} {g : Sg} {Q : Sg → Prop} (h : Ck_fill 9 1000 g (fun g1 => vp_in x1 8 ∧ Hw_measure_21 1 0 (sgU g1 9 (x1).toNatClampNeg 0) Q)) : Cw_measure x1 g Q := by
  refine Cl.of 3 pl_X7 rfl ?_
  refine e_aload_n (dx D_w_measure 0 rfl) rfl ?_
  refine e_getR (dx D_w_measure 1 rfl) fl_RX7_15 rfl rfl ?_
  refine q_sipush (v := 1000) (dx D_w_measure 2 rfl) (by decide) ?_
  refine e_callSv (rest := []) [.ref 9, .int 1000] (dx D_w_measure 3 rfl) ln_w_measure_49 rfl rfl (Nat.le_of_ble_eq_true rfl) h (fun g1 h => ?_)
  refine e_aload_n (dx D_w_measure 4 rfl) rfl ?_
  refine e_getR (dx D_w_measure 5 rfl) fl_RX7_15 rfl rfl ?_
  refine e_iload_n (dx D_w_measure 6 rfl) rfl ?_
  refine q_iconst (v := 0) (dx D_w_measure 7 rfl) (by decide) ?_
  obtain ⟨hb2, h⟩ := h
  refine e_iast (dx D_w_measure 8 rfl) rfl hb2 ?_
  refine q_iconst (v := 1) (dx D_w_measure 9 rfl) (by decide) ?_
  refine q_istore_n (L' := [some (.ref 7), some (.int x1), some (.int 1), none, none]) (dx D_w_measure 10 rfl) (by decide) rfl ?_
  refine q_iconst (v := 0) (dx D_w_measure 11 rfl) (by decide) ?_
  refine q_istore_n (L' := [some (.ref 7), some (.int x1), some (.int 1), some (.int 0), none]) (dx D_w_measure 12 rfl) (by decide) rfl ?_
  exact Wp.mask [true, false, true, true, false] h
set_option maxRecDepth 20000 in
theorem Vw_measure_21 {x2 : Int32} {x3 : Int32} {g : Sg} {Q : Sg → Prop} (h : ((8 ≤ x3 → Q g) ∧ (¬ 8 ≤ x3 → ((x2 = 0 → Q g) ∧ (¬ x2 = 0 → Hw_measure_36 0 x3 0 g Q))))) : Hw_measure_21 x2 x3 g Q := by
  refine e_iload_n (dx D_w_measure 13 rfl) rfl ?_
  refine q_bipush (v := 8) (dx D_w_measure 14 rfl) (by decide) ?_
  refine e_icmp_ge (tgt := 80) (dx D_w_measure 15 rfl) (by decide) (fun c => ?_) (fun c => ?_)
  · replace h := h.1 c
    exact e_vret (dx D_w_measure 41 rfl) rfl ⟨rfl, h⟩
  · replace h := h.2 c
    refine e_iload_n (dx D_w_measure 16 rfl) rfl ?_
    refine e_if_eq (tgt := 80) (dx D_w_measure 17 rfl) (by decide) (fun c => ?_) (fun c => ?_)
    · replace h := h.1 c
      exact e_vret (dx D_w_measure 41 rfl) rfl ⟨rfl, h⟩
    · replace h := h.2 c
      refine q_iconst (v := 0) (dx D_w_measure 18 rfl) (by decide) ?_
      refine q_istore_n (L' := [some (.ref 7), none, some (.int 0), some (.int x3), none]) (dx D_w_measure 19 rfl) (by decide) rfl ?_
      refine q_iconst (v := 0) (dx D_w_measure 20 rfl) (by decide) ?_
      refine q_istore (L' := [some (.ref 7), none, some (.int 0), some (.int x3), some (.int 0)]) (dx D_w_measure 21 rfl) (by decide) rfl ?_
      exact h
set_option maxRecDepth 20000 in
theorem Vw_measure_36 {x2 : Int32} {x3 : Int32} {x4 : Int32} {g : Sg} {Q : Sg → Prop} (h : (((g 1 8) ≤ x4 → Hw_measure_21 x2 (x3 + 1) g Q) ∧ (¬ (g 1 8) ≤ x4 → vp_in x4 16 ∧ (((tbb (g 1 9) x4 = false ∧ g 8 (x4).toNatClampNeg < g 1 10) → Cw_shorten x4 g (fun r3 g2 => ((r3 = 0 → Hw_measure_36 x2 x3 (x4 + 1) g2 Q) ∧ (¬ r3 = 0 → Hw_measure_36 1 x3 (x4 + 1) g2 Q)))) ∧ (¬ (tbb (g 1 9) x4 = false ∧ g 8 (x4).toNatClampNeg < g 1 10) → Hw_measure_36 x2 x3 (x4 + 1) g Q))))) : Hw_measure_36 x2 x3 x4 g Q := by
  refine e_iload (dx D_w_measure 22 rfl) rfl ?_
  refine e_aload_n (dx D_w_measure 23 rfl) rfl ?_
  refine e_getR (dx D_w_measure 24 rfl) fl_RX7_21 rfl rfl ?_
  refine e_getI (dx D_w_measure 25 rfl) fl_RX7_55 rfl rfl ?_
  refine e_icmp_ge (tgt := 74) (dx D_w_measure 26 rfl) (by decide) (fun c => ?_) (fun c => ?_)
  · replace h := h.1 c
    refine q_iinc (d := 1) (L' := [some (.ref 7), none, some (.int x2), some (.int (x3 + 1)), some (.int x4)]) (dx D_w_measure 39 rfl) rfl (by decide) (by decide) rfl ?_
    refine e_goto (tgt := 21) (dx D_w_measure 40 rfl) (by decide) ?_
    exact Wp.mask [true, false, true, true, false] h
  · replace h := h.2 c
    refine e_aload_n (dx D_w_measure 27 rfl) rfl ?_
    refine e_iload (dx D_w_measure 28 rfl) rfl ?_
    obtain ⟨hb1, h⟩ := h
    refine e_callVi (Q1 := fun r g' => bP (tbb (g 1 9) x4 = false ∧ g 8 (x4).toNatClampNeg < g 1 10) = r ∧ g = g') (rest := []) [.int x4] (dx D_w_measure 29 rfl) ln_w_measure_58 rfl rfl rfl (Nat.le_of_ble_eq_true rfl) (Iw_isOpen hb1 ⟨rfl, rfl⟩) (fun r g' hh => ?_)
    obtain ⟨rfl, rfl⟩ := hh
    refine e_if_eq (tgt := 68) (dx D_w_measure 30 rfl) (by decide) (fun c => ?_) (fun c => ?_)
    · replace h := h.2 (bP_z c)
      refine q_iinc (d := 1) (L' := [some (.ref 7), none, some (.int x2), some (.int x3), some (.int (x4 + 1))]) (dx D_w_measure 37 rfl) rfl (by decide) (by decide) rfl ?_
      refine e_goto (tgt := 36) (dx D_w_measure 38 rfl) (by decide) ?_
      exact h
    · replace h := h.1 (bP_n c)
      refine e_aload_n (dx D_w_measure 31 rfl) rfl ?_
      refine e_iload (dx D_w_measure 32 rfl) rfl ?_
      refine e_callVi (rest := []) [.int x4] (dx D_w_measure 33 rfl) ln_w_measure_62 rfl rfl rfl (Nat.le_of_ble_eq_true rfl) h (fun r3 g2 h => ?_)
      refine e_if_eq (tgt := 68) (dx D_w_measure 34 rfl) (by decide) (fun c => ?_) (fun c => ?_)
      · replace h := h.1 c
        refine q_iinc (d := 1) (L' := [some (.ref 7), none, some (.int x2), some (.int x3), some (.int (x4 + 1))]) (dx D_w_measure 37 rfl) rfl (by decide) (by decide) rfl ?_
        refine e_goto (tgt := 36) (dx D_w_measure 38 rfl) (by decide) ?_
        exact h
      · replace h := h.2 c
        refine q_iconst (v := 1) (dx D_w_measure 35 rfl) (by decide) ?_
        refine q_istore_n (L' := [some (.ref 7), none, some (.int 1), some (.int x3), some (.int x4)]) (dx D_w_measure 36 rfl) (by decide) rfl ?_
        refine q_iinc (d := 1) (L' := [some (.ref 7), none, some (.int 1), some (.int x3), some (.int (x4 + 1))]) (dx D_w_measure 37 rfl) rfl (by decide) (by decide) rfl ?_
        refine e_goto (tgt := 36) (dx D_w_measure 38 rfl) (by decide) ?_
        exact h
abbrev Cw_leastOnward (x1 : Int32) (g : Sg) (Q : Int32 → Sg → Prop) : Prop := Ci Mw_leastOnward [.ref 7, .int x1] g Q
abbrev Hw_leastOnward_16 (x1 : Int32) (x2 : Int32) (g : Sg) (Q : Int32 → Sg → Prop) : Prop := Hi Mw_leastOnward 16 [some (.ref 7), some (.int x1), some (.int x2)] [] g Q
set_option maxRecDepth 20000 in
theorem Vw_leastOnward {x1 : Int32} {g : Sg} {Q : Int32 → Sg → Prop} (h : vp_in x1 8 ∧ (((g 9 (x1).toNatClampNeg) < 1000 → Hw_leastOnward_16 x1 0 g Q) ∧ (¬ (g 9 (x1).toNatClampNeg) < 1000 → Q (-1) g))) : Cw_leastOnward x1 g Q := by
  refine Cl.of 1 pl_X7 rfl ?_
  refine e_aload_n (dx D_w_leastOnward 0 rfl) rfl ?_
  refine e_getR (dx D_w_leastOnward 1 rfl) fl_RX7_15 rfl rfl ?_
  refine e_iload_n (dx D_w_leastOnward 2 rfl) rfl ?_
  obtain ⟨hb1, h⟩ := h
  refine e_iald (dx D_w_leastOnward 3 rfl) rfl hb1 ?_
  refine q_sipush (v := 1000) (dx D_w_leastOnward 4 rfl) (by decide) ?_
  refine e_icmp_lt (tgt := 14) (dx D_w_leastOnward 5 rfl) (by decide) (fun c => ?_) (fun c => ?_)
  · replace h := h.1 c
    refine q_iconst (v := 0) (dx D_w_leastOnward 8 rfl) (by decide) ?_
    refine q_istore_n (L' := [some (.ref 7), some (.int x1), some (.int 0)]) (dx D_w_leastOnward 9 rfl) (by decide) rfl ?_
    exact h
  · replace h := h.2 c
    refine q_iconst (v := (-1)) (dx D_w_leastOnward 6 rfl) (by decide) ?_
    exact e_iret (dx D_w_leastOnward 7 rfl) rfl rfl ⟨_, rfl, h⟩
set_option maxRecDepth 20000 in
theorem Vw_leastOnward_16 {x1 : Int32} {x2 : Int32} {g : Sg} {Q : Int32 → Sg → Prop} (h : (((g 1 8) ≤ x2 → Q (-1) g) ∧ (¬ (g 1 8) ≤ x2 → vp_in x2 16 ∧ (((tbb (g 1 9) x2 = false ∧ g 8 (x2).toNatClampNeg < g 1 10) → vp_in x2 16 ∧ (((g 3 (x2).toNatClampNeg = x1 ∨ g 4 (x2).toNatClampNeg = x1) → vp_in x2 16 ∧ vp_in (if g 3 (x2).toNatClampNeg = x1 then g 4 (x2).toNatClampNeg else g 3 (x2).toNatClampNeg) 8 ∧ vp_in x2 16 ∧ vp_in x1 8 ∧ ((((g 9 (if g 3 (x2).toNatClampNeg = x1 then g 4 (x2).toNatClampNeg else g 3 (x2).toNatClampNeg).toNatClampNeg) + (g 5 (x2).toNatClampNeg)) = (g 9 (x1).toNatClampNeg) → Q x2 g) ∧ (¬ ((g 9 (if g 3 (x2).toNatClampNeg = x1 then g 4 (x2).toNatClampNeg else g 3 (x2).toNatClampNeg).toNatClampNeg) + (g 5 (x2).toNatClampNeg)) = (g 9 (x1).toNatClampNeg) → Hw_leastOnward_16 x1 (x2 + 1) g Q))) ∧ (¬ (g 3 (x2).toNatClampNeg = x1 ∨ g 4 (x2).toNatClampNeg = x1) → Hw_leastOnward_16 x1 (x2 + 1) g Q))) ∧ (¬ (tbb (g 1 9) x2 = false ∧ g 8 (x2).toNatClampNeg < g 1 10) → Hw_leastOnward_16 x1 (x2 + 1) g Q))))) : Hw_leastOnward_16 x1 x2 g Q := by
  refine e_iload_n (dx D_w_leastOnward 10 rfl) rfl ?_
  refine e_aload_n (dx D_w_leastOnward 11 rfl) rfl ?_
  refine e_getR (dx D_w_leastOnward 12 rfl) fl_RX7_21 rfl rfl ?_
  refine e_getI (dx D_w_leastOnward 13 rfl) fl_RX7_55 rfl rfl ?_
  refine e_icmp_ge (tgt := 88) (dx D_w_leastOnward 14 rfl) (by decide) (fun c => ?_) (fun c => ?_)
  · replace h := h.1 c
    refine q_iconst (v := (-1)) (dx D_w_leastOnward 48 rfl) (by decide) ?_
    exact e_iret (dx D_w_leastOnward 49 rfl) rfl rfl ⟨_, rfl, h⟩
  · replace h := h.2 c
    refine e_aload_n (dx D_w_leastOnward 15 rfl) rfl ?_
    refine e_iload_n (dx D_w_leastOnward 16 rfl) rfl ?_
    obtain ⟨hb1, h⟩ := h
    refine e_callVi (Q1 := fun r g' => bP (tbb (g 1 9) x2 = false ∧ g 8 (x2).toNatClampNeg < g 1 10) = r ∧ g = g') (rest := []) [.int x2] (dx D_w_leastOnward 17 rfl) ln_w_leastOnward_58 rfl rfl rfl (Nat.le_of_ble_eq_true rfl) (Iw_isOpen hb1 ⟨rfl, rfl⟩) (fun r g' hh => ?_)
    obtain ⟨rfl, rfl⟩ := hh
    refine e_if_eq (tgt := 82) (dx D_w_leastOnward 18 rfl) (by decide) (fun c => ?_) (fun c => ?_)
    · replace h := h.2 (bP_z c)
      refine q_iinc (d := 1) (L' := [some (.ref 7), some (.int x1), some (.int (x2 + 1))]) (dx D_w_leastOnward 46 rfl) rfl (by decide) (by decide) rfl ?_
      refine e_goto (tgt := 16) (dx D_w_leastOnward 47 rfl) (by decide) ?_
      exact h
    · replace h := h.1 (bP_n c)
      refine e_aload_n (dx D_w_leastOnward 19 rfl) rfl ?_
      refine e_getR (dx D_w_leastOnward 20 rfl) fl_RX7_21 rfl rfl ?_
      refine e_iload_n (dx D_w_leastOnward 21 rfl) rfl ?_
      refine e_iload_n (dx D_w_leastOnward 22 rfl) rfl ?_
      obtain ⟨hb2, h⟩ := h
      refine e_callVi (Q1 := fun r g' => bP (g 3 (x2).toNatClampNeg = x1 ∨ g 4 (x2).toNatClampNeg = x1) = r ∧ g = g') (rest := []) [.int x2, .int x1] (dx D_w_leastOnward 23 rfl) ln_w_leastOnward_74 rfl rfl rfl (Nat.le_of_ble_eq_true rfl) (Ip_touches hb2 ⟨rfl, rfl⟩) (fun r g' hh => ?_)
      obtain ⟨rfl, rfl⟩ := hh
      refine e_if_eq (tgt := 82) (dx D_w_leastOnward 24 rfl) (by decide) (fun c => ?_) (fun c => ?_)
      · replace h := h.2 (bP_z c)
        refine q_iinc (d := 1) (L' := [some (.ref 7), some (.int x1), some (.int (x2 + 1))]) (dx D_w_leastOnward 46 rfl) rfl (by decide) (by decide) rfl ?_
        refine e_goto (tgt := 16) (dx D_w_leastOnward 47 rfl) (by decide) ?_
        exact h
      · replace h := h.1 (bP_n c)
        refine e_aload_n (dx D_w_leastOnward 25 rfl) rfl ?_
        refine e_getR (dx D_w_leastOnward 26 rfl) fl_RX7_15 rfl rfl ?_
        refine e_aload_n (dx D_w_leastOnward 27 rfl) rfl ?_
        refine e_getR (dx D_w_leastOnward 28 rfl) fl_RX7_21 rfl rfl ?_
        refine e_iload_n (dx D_w_leastOnward 29 rfl) rfl ?_
        refine e_iload_n (dx D_w_leastOnward 30 rfl) rfl ?_
        obtain ⟨hb3, h⟩ := h
        refine e_callVi (Q1 := fun r g' => (if g 3 (x2).toNatClampNeg = x1 then g 4 (x2).toNatClampNeg else g 3 (x2).toNatClampNeg) = r ∧ g = g') (rest := [.ref 9]) [.int x2, .int x1] (dx D_w_leastOnward 31 rfl) ln_w_leastOnward_45 rfl rfl rfl (Nat.le_of_ble_eq_true rfl) (Ip_opposite hb3 ⟨rfl, rfl⟩) (fun r g' hh => ?_)
        obtain ⟨rfl, rfl⟩ := hh
        obtain ⟨hb4, h⟩ := h
        refine e_iald (dx D_w_leastOnward 32 rfl) rfl hb4 ?_
        refine e_aload_n (dx D_w_leastOnward 33 rfl) rfl ?_
        refine e_getR (dx D_w_leastOnward 34 rfl) fl_RX7_21 rfl rfl ?_
        refine e_getR (dx D_w_leastOnward 35 rfl) fl_RX7_71 rfl rfl ?_
        refine e_iload_n (dx D_w_leastOnward 36 rfl) rfl ?_
        obtain ⟨hb5, h⟩ := h
        refine e_iald (dx D_w_leastOnward 37 rfl) rfl hb5 ?_
        refine e_iadd (dx D_w_leastOnward 38 rfl) ?_
        refine e_aload_n (dx D_w_leastOnward 39 rfl) rfl ?_
        refine e_getR (dx D_w_leastOnward 40 rfl) fl_RX7_15 rfl rfl ?_
        refine e_iload_n (dx D_w_leastOnward 41 rfl) rfl ?_
        obtain ⟨hb6, h⟩ := h
        refine e_iald (dx D_w_leastOnward 42 rfl) rfl hb6 ?_
        refine e_icmp_ne (tgt := 82) (dx D_w_leastOnward 43 rfl) (by decide) (fun c => ?_) (fun c => ?_)
        · replace h := h.2 c
          refine q_iinc (d := 1) (L' := [some (.ref 7), some (.int x1), some (.int (x2 + 1))]) (dx D_w_leastOnward 46 rfl) rfl (by decide) (by decide) rfl ?_
          refine e_goto (tgt := 16) (dx D_w_leastOnward 47 rfl) (by decide) ?_
          exact h
        · replace h := h.1 c
          refine e_iload_n (dx D_w_leastOnward 44 rfl) rfl ?_
          exact e_iret (dx D_w_leastOnward 45 rfl) rfl rfl ⟨_, rfl, h⟩
abbrev Cw_find (x1 : Int32) (x2 : Int32) (g : Sg) (Q : Int32 → Sg → Prop) : Prop := Ci Mw_find [.ref 7, .int x1, .int x2] g Q
abbrev Hw_find_15 (x2 : Int32) (x3 : Int32) (x4 : Int32) (g : Sg) (Q : Int32 → Sg → Prop) : Prop := Hi Mw_find 15 [some (.ref 7), none, some (.int x2), some (.int x3), some (.int x4), none] [] g Q
set_option maxRecDepth 20000 in
theorem Vw_find {x1 : Int32} {x2 : Int32} {g : Sg} {Q : Int32 → Sg → Prop} (h : Cw_measure x2 g (fun g1 => Hw_find_15 x2 x1 0 (sgU g1 7 4 0) Q)) : Cw_find x1 x2 g Q := by
  refine Cl.of 3 pl_X7 rfl ?_
  refine e_aload_n (dx D_w_find 0 rfl) rfl ?_
  refine e_iload_n (dx D_w_find 1 rfl) rfl ?_
  refine e_callVv (rest := []) [.int x2] (dx D_w_find 2 rfl) ln_w_find_34 rfl rfl rfl (Nat.le_of_ble_eq_true rfl) h (fun g1 h => ?_)
  refine e_aload_n (dx D_w_find 3 rfl) rfl ?_
  refine q_iconst (v := 0) (dx D_w_find 4 rfl) (by decide) ?_
  refine e_putI (dx D_w_find 5 rfl) fp_RX7_38 rfl rfl ?_
  refine e_iload_n (dx D_w_find 6 rfl) rfl ?_
  refine q_istore_n (L' := [some (.ref 7), some (.int x1), some (.int x2), some (.int x1), none, none]) (dx D_w_find 7 rfl) (by decide) rfl ?_
  refine q_iconst (v := 0) (dx D_w_find 8 rfl) (by decide) ?_
  refine q_istore (L' := [some (.ref 7), some (.int x1), some (.int x2), some (.int x1), some (.int 0), none]) (dx D_w_find 9 rfl) (by decide) rfl ?_
  exact Wp.mask [true, false, true, true, true, false] h
set_option maxRecDepth 20000 in
theorem Vw_find_15 {x2 : Int32} {x3 : Int32} {x4 : Int32} {g : Sg} {Q : Int32 → Sg → Prop} (h : ((8 ≤ x4 → ((x3 = x2 → Q 1 g) ∧ (¬ x3 = x2 → Q 0 g))) ∧ (¬ 8 ≤ x4 → ((x3 = x2 → ((x3 = x2 → Q 1 g) ∧ (¬ x3 = x2 → Q 0 g))) ∧ (¬ x3 = x2 → Cw_leastOnward x3 g (fun r2 g1 => ((r2 = (-1) → Q 0 g1) ∧ (¬ r2 = (-1) → vp_in x4 8 ∧ vp_in r2 16 ∧ Hw_find_15 x2 (if g1 3 (r2).toNatClampNeg = x3 then g1 4 (r2).toNatClampNeg else g1 3 (r2).toNatClampNeg) (x4 + 1) (sgU (sgU g1 10 (x4).toNatClampNeg r2) 7 4 (x4 + 1)) Q)))))))) : Hw_find_15 x2 x3 x4 g Q := by
  refine e_iload (dx D_w_find 10 rfl) rfl ?_
  refine q_bipush (v := 8) (dx D_w_find 11 rfl) (by decide) ?_
  refine e_icmp_ge (tgt := 76) (dx D_w_find 12 rfl) (by decide) (fun c => ?_) (fun c => ?_)
  · replace h := h.1 c
    refine e_iload_n (dx D_w_find 43 rfl) rfl ?_
    refine e_iload_n (dx D_w_find 44 rfl) rfl ?_
    refine e_icmp_ne (tgt := 85) (dx D_w_find 45 rfl) (by decide) (fun c => ?_) (fun c => ?_)
    · replace h := h.2 c
      refine q_iconst (v := 0) (dx D_w_find 48 rfl) (by decide) ?_
      exact e_iret (dx D_w_find 49 rfl) rfl (by decide) ⟨_, rfl, h⟩
    · replace h := h.1 c
      refine q_iconst (v := 1) (dx D_w_find 46 rfl) (by decide) ?_
      refine e_goto (tgt := 86) (dx D_w_find 47 rfl) (by decide) ?_
      exact e_iret (dx D_w_find 49 rfl) rfl (by decide) ⟨_, rfl, h⟩
  · replace h := h.2 c
    refine e_iload_n (dx D_w_find 13 rfl) rfl ?_
    refine e_iload_n (dx D_w_find 14 rfl) rfl ?_
    refine e_icmp_eq (tgt := 76) (dx D_w_find 15 rfl) (by decide) (fun c => ?_) (fun c => ?_)
    · replace h := h.1 c
      refine e_iload_n (dx D_w_find 43 rfl) rfl ?_
      refine e_iload_n (dx D_w_find 44 rfl) rfl ?_
      refine e_icmp_ne (tgt := 85) (dx D_w_find 45 rfl) (by decide) (fun c => ?_) (fun c => ?_)
      · replace h := h.2 c
        refine q_iconst (v := 0) (dx D_w_find 48 rfl) (by decide) ?_
        exact e_iret (dx D_w_find 49 rfl) rfl (by decide) ⟨_, rfl, h⟩
      · replace h := h.1 c
        refine q_iconst (v := 1) (dx D_w_find 46 rfl) (by decide) ?_
        refine e_goto (tgt := 86) (dx D_w_find 47 rfl) (by decide) ?_
        exact e_iret (dx D_w_find 49 rfl) rfl (by decide) ⟨_, rfl, h⟩
    · replace h := h.2 c
      refine e_aload_n (dx D_w_find 16 rfl) rfl ?_
      refine e_iload_n (dx D_w_find 17 rfl) rfl ?_
      refine e_callVi (rest := []) [.int x3] (dx D_w_find 18 rfl) ln_w_find_41 rfl rfl rfl (Nat.le_of_ble_eq_true rfl) h (fun r2 g1 h => ?_)
      refine q_istore (L' := [some (.ref 7), none, some (.int x2), some (.int x3), some (.int x4), some (.int r2)]) (dx D_w_find 19 rfl) (by decide) rfl ?_
      refine e_iload (dx D_w_find 20 rfl) rfl ?_
      refine q_iconst (v := (-1)) (dx D_w_find 21 rfl) (by decide) ?_
      refine e_icmp_ne (tgt := 42) (dx D_w_find 22 rfl) (by decide) (fun c => ?_) (fun c => ?_)
      · replace h := h.2 c
        refine e_aload_n (dx D_w_find 25 rfl) rfl ?_
        refine e_getR (dx D_w_find 26 rfl) fl_RX7_18 rfl rfl ?_
        refine e_iload (dx D_w_find 27 rfl) rfl ?_
        refine e_iload (dx D_w_find 28 rfl) rfl ?_
        obtain ⟨hb3, h⟩ := h
        refine e_iast (dx D_w_find 29 rfl) rfl hb3 ?_
        refine e_aload_n (dx D_w_find 30 rfl) rfl ?_
        refine e_iload (dx D_w_find 31 rfl) rfl ?_
        refine q_iconst (v := 1) (dx D_w_find 32 rfl) (by decide) ?_
        refine e_iadd (dx D_w_find 33 rfl) ?_
        refine e_putI (dx D_w_find 34 rfl) fp_RX7_38 rfl rfl ?_
        refine e_aload_n (dx D_w_find 35 rfl) rfl ?_
        refine e_getR (dx D_w_find 36 rfl) fl_RX7_21 rfl rfl ?_
        refine e_iload (dx D_w_find 37 rfl) rfl ?_
        refine e_iload_n (dx D_w_find 38 rfl) rfl ?_
        obtain ⟨hb4, h⟩ := h
        refine e_callVi (Q1 := fun r g' => (if g1 3 (r2).toNatClampNeg = x3 then g1 4 (r2).toNatClampNeg else g1 3 (r2).toNatClampNeg) = r ∧ (sgU (sgU g1 10 (x4).toNatClampNeg r2) 7 4 (x4 + 1)) = g') (rest := []) [.int r2, .int x3] (dx D_w_find 39 rfl) ln_w_find_45 rfl rfl rfl (Nat.le_of_ble_eq_true rfl) (Ip_opposite hb4 ⟨rfl, rfl⟩) (fun r g' hh => ?_)
        obtain ⟨rfl, rfl⟩ := hh
        refine q_istore_n (L' := [some (.ref 7), none, some (.int x2), some (.int (if g1 3 (r2).toNatClampNeg = x3 then g1 4 (r2).toNatClampNeg else g1 3 (r2).toNatClampNeg)), some (.int x4), some (.int r2)]) (dx D_w_find 40 rfl) (by decide) rfl ?_
        refine q_iinc (d := 1) (L' := [some (.ref 7), none, some (.int x2), some (.int (if g1 3 (r2).toNatClampNeg = x3 then g1 4 (r2).toNatClampNeg else g1 3 (r2).toNatClampNeg)), some (.int (x4 + 1)), some (.int r2)]) (dx D_w_find 41 rfl) rfl (by decide) (by decide) rfl ?_
        refine e_goto (tgt := 15) (dx D_w_find 42 rfl) (by decide) ?_
        exact Wp.mask [true, false, true, true, true, false] h
      · replace h := h.1 c
        refine q_iconst (v := 0) (dx D_w_find 23 rfl) (by decide) ?_
        exact e_iret (dx D_w_find 24 rfl) rfl (by decide) ⟨_, rfl, h⟩
abbrev Cw_rowBits (g : Sg) (Q : Int32 → Sg → Prop) : Prop := Ci Mw_rowBits [.ref 7] g Q
abbrev Hw_rowBits_4 (x1 : Int32) (x2 : Int32) (g : Sg) (Q : Int32 → Sg → Prop) : Prop := Hi Mw_rowBits 4 [some (.ref 7), some (.int x1), some (.int x2)] [] g Q
set_option maxRecDepth 20000 in
theorem Vw_rowBits {g : Sg} {Q : Int32 → Sg → Prop} (h : Hw_rowBits_4 0 0 g Q) : Cw_rowBits g Q := by
  refine Cl.of 2 pl_X7 rfl ?_
  refine q_iconst (v := 0) (dx D_w_rowBits 0 rfl) (by decide) ?_
  refine q_istore_n (L' := [some (.ref 7), some (.int 0), none]) (dx D_w_rowBits 1 rfl) (by decide) rfl ?_
  refine q_iconst (v := 0) (dx D_w_rowBits 2 rfl) (by decide) ?_
  refine q_istore_n (L' := [some (.ref 7), some (.int 0), some (.int 0)]) (dx D_w_rowBits 3 rfl) (by decide) rfl ?_
  exact h
set_option maxRecDepth 20000 in
theorem Vw_rowBits_4 {x1 : Int32} {x2 : Int32} {g : Sg} {Q : Int32 → Sg → Prop} (h : (((g 7 4) ≤ x2 → Q x1 g) ∧ (¬ (g 7 4) ≤ x2 → vp_in x2 8 ∧ Hw_rowBits_4 (x1 ||| (sb (g 10 (x2).toNatClampNeg))) (x2 + 1) g Q))) : Hw_rowBits_4 x1 x2 g Q := by
  refine e_iload_n (dx D_w_rowBits 4 rfl) rfl ?_
  refine e_aload_n (dx D_w_rowBits 5 rfl) rfl ?_
  refine e_getI (dx D_w_rowBits 6 rfl) fl_RX7_38 rfl rfl ?_
  refine e_icmp_ge (tgt := 30) (dx D_w_rowBits 7 rfl) (by decide) (fun c => ?_) (fun c => ?_)
  · replace h := h.1 c
    refine e_iload_n (dx D_w_rowBits 18 rfl) rfl ?_
    exact e_iret (dx D_w_rowBits 19 rfl) rfl rfl ⟨_, rfl, h⟩
  · replace h := h.2 c
    refine e_iload_n (dx D_w_rowBits 8 rfl) rfl ?_
    refine e_aload_n (dx D_w_rowBits 9 rfl) rfl ?_
    refine e_getR (dx D_w_rowBits 10 rfl) fl_RX7_18 rfl rfl ?_
    refine e_iload_n (dx D_w_rowBits 11 rfl) rfl ?_
    obtain ⟨hb1, h⟩ := h
    refine e_iald (dx D_w_rowBits 12 rfl) rfl hb1 ?_
    refine e_callSNi (Q1 := fun r g' => (sb (g 10 (x2).toNatClampNeg)) = r ∧ g = g') (rest := [.int x1]) [.int (g 10 (x2).toNatClampNeg)] (dx D_w_rowBits 13 rfl) ln_w_rowBits_78 rfl rfl (Nat.le_of_ble_eq_true rfl) (Ix_bit  ⟨rfl, rfl⟩) (fun r g' hh => ?_)
    obtain ⟨rfl, rfl⟩ := hh
    refine e_ior (dx D_w_rowBits 14 rfl) ?_
    refine q_istore_n (L' := [some (.ref 7), some (.int (x1 ||| (sb (g 10 (x2).toNatClampNeg)))), some (.int x2)]) (dx D_w_rowBits 15 rfl) (by decide) rfl ?_
    refine q_iinc (d := 1) (L' := [some (.ref 7), some (.int (x1 ||| (sb (g 10 (x2).toNatClampNeg)))), some (.int (x2 + 1))]) (dx D_w_rowBits 16 rfl) rfl (by decide) (by decide) rfl ?_
    refine e_goto (tgt := 4) (dx D_w_rowBits 17 rfl) (by decide) ?_
    exact h
abbrev Cb_afterLetIn (x1 : Int32) (g : Sg) (Q : Int32 → Sg → Prop) : Prop := Ci Mb_afterLetIn [.ref 11, .int x1] g Q
set_option maxRecDepth 20000 in
theorem Vb_afterLetIn {x1 : Int32} {g : Sg} {Q : Int32 → Sg → Prop} (h : vp_in x1 17 ∧ Cb_fillLoad (g 14 (x1).toNatClampNeg) g (fun g2 => vp_in x1 16 ∧ vp_in x1 16 ∧ Cw_find (g2 12 (x1).toNatClampNeg) (g2 13 (x1).toNatClampNeg) g2 (fun r6 g5 => ((r6 = 0 → Q (g 14 (x1).toNatClampNeg) g5) ∧ (¬ r6 = 0 → Cw_rowBits g5 (fun r8 g7 => vp_in x1 16 ∧ Q ((g 14 (x1).toNatClampNeg) ||| (sb x1)) (sgU g7 15 (x1).toNatClampNeg r8))))))) : Cb_afterLetIn x1 g Q := by
  refine Cl.of 1 pl_X0 rfl ?_
  refine e_aload_n (dx D_b_afterLetIn 0 rfl) rfl ?_
  refine e_getR (dx D_b_afterLetIn 1 rfl) fl_RX0_18 rfl rfl ?_
  refine e_iload_n (dx D_b_afterLetIn 2 rfl) rfl ?_
  obtain ⟨hb1, h⟩ := h
  refine e_iald (dx D_b_afterLetIn 3 rfl) rfl hb1 ?_
  refine q_istore_n (L' := [some (.ref 11), some (.int x1), some (.int (g 14 (x1).toNatClampNeg))]) (dx D_b_afterLetIn 4 rfl) (by decide) rfl ?_
  refine e_aload_n (dx D_b_afterLetIn 5 rfl) rfl ?_
  refine e_iload_n (dx D_b_afterLetIn 6 rfl) rfl ?_
  refine e_callVv (rest := []) [.int (g 14 (x1).toNatClampNeg)] (dx D_b_afterLetIn 7 rfl) ln_b_afterLetIn_51 rfl rfl rfl (Nat.le_of_ble_eq_true rfl) h (fun g2 h => ?_)
  refine e_aload_n (dx D_b_afterLetIn 8 rfl) rfl ?_
  refine e_getR (dx D_b_afterLetIn 9 rfl) fl_RX0_24 rfl rfl ?_
  refine e_aload_n (dx D_b_afterLetIn 10 rfl) rfl ?_
  refine e_getR (dx D_b_afterLetIn 11 rfl) fl_RX0_9 rfl rfl ?_
  refine e_iload_n (dx D_b_afterLetIn 12 rfl) rfl ?_
  obtain ⟨hb3, h⟩ := h
  refine e_iald (dx D_b_afterLetIn 13 rfl) rfl hb3 ?_
  refine e_aload_n (dx D_b_afterLetIn 14 rfl) rfl ?_
  refine e_getR (dx D_b_afterLetIn 15 rfl) fl_RX0_15 rfl rfl ?_
  refine e_iload_n (dx D_b_afterLetIn 16 rfl) rfl ?_
  obtain ⟨hb4, h⟩ := h
  refine e_iald (dx D_b_afterLetIn 17 rfl) rfl hb4 ?_
  refine e_callVi (rest := []) [.int (g2 12 (x1).toNatClampNeg), .int (g2 13 (x1).toNatClampNeg)] (dx D_b_afterLetIn 18 rfl) ln_b_afterLetIn_54 rfl rfl rfl (Nat.le_of_ble_eq_true rfl) h (fun r6 g5 h => ?_)
  refine e_if_ne (tgt := 36) (dx D_b_afterLetIn 19 rfl) (by decide) (fun c => ?_) (fun c => ?_)
  · replace h := h.2 c
    refine e_aload_n (dx D_b_afterLetIn 22 rfl) rfl ?_
    refine e_getR (dx D_b_afterLetIn 23 rfl) fl_RX0_21 rfl rfl ?_
    refine e_iload_n (dx D_b_afterLetIn 24 rfl) rfl ?_
    refine e_aload_n (dx D_b_afterLetIn 25 rfl) rfl ?_
    refine e_getR (dx D_b_afterLetIn 26 rfl) fl_RX0_24 rfl rfl ?_
    refine e_callVi (rest := [.int x1, .ref 15]) [] (dx D_b_afterLetIn 27 rfl) ln_b_afterLetIn_58 rfl rfl rfl (Nat.le_of_ble_eq_true rfl) h (fun r8 g7 h => ?_)
    obtain ⟨hb9, h⟩ := h
    refine e_iast (dx D_b_afterLetIn 28 rfl) rfl hb9 ?_
    refine e_iload_n (dx D_b_afterLetIn 29 rfl) rfl ?_
    refine e_iload_n (dx D_b_afterLetIn 30 rfl) rfl ?_
    refine e_callSNi (Q1 := fun r g' => (sb x1) = r ∧ (sgU g7 15 (x1).toNatClampNeg r8) = g') (rest := [.int (g 14 (x1).toNatClampNeg)]) [.int x1] (dx D_b_afterLetIn 31 rfl) ln_b_afterLetIn_62 rfl rfl (Nat.le_of_ble_eq_true rfl) (Ix_bit  ⟨rfl, rfl⟩) (fun r g' hh => ?_)
    obtain ⟨rfl, rfl⟩ := hh
    refine e_ior (dx D_b_afterLetIn 32 rfl) ?_
    exact e_iret (dx D_b_afterLetIn 33 rfl) rfl rfl ⟨_, rfl, h⟩
  · replace h := h.1 c
    refine e_iload_n (dx D_b_afterLetIn 20 rfl) rfl ?_
    exact e_iret (dx D_b_afterLetIn 21 rfl) rfl rfl ⟨_, rfl, h⟩
abbrev Cb_playFrom (x1 : Int32) (g : Sg) (Q : Sg → Prop) : Prop := Cv Mb_playFrom [.ref 11, .int x1] g Q
abbrev Hb_playFrom_2 (x2 : Int32) (g : Sg) (Q : Sg → Prop) : Prop := Hv Mb_playFrom 2 [some (.ref 11), none, some (.int x2)] [] g Q
set_option maxRecDepth 20000 in
theorem Vb_playFrom {x1 : Int32} {g : Sg} {Q : Sg → Prop} (h : Hb_playFrom_2 x1 g Q) : Cb_playFrom x1 g Q := by
  refine Cl.of 1 pl_X0 rfl ?_
  refine e_iload_n (dx D_b_playFrom 0 rfl) rfl ?_
  refine q_istore_n (L' := [some (.ref 11), some (.int x1), some (.int x1)]) (dx D_b_playFrom 1 rfl) (by decide) rfl ?_
  exact Wp.mask [true, false, true] h
set_option maxRecDepth 20000 in
theorem Vb_playFrom_2 {x2 : Int32} {g : Sg} {Q : Sg → Prop} (h : (((g 11 6) ≤ x2 → Q g) ∧ (¬ (g 11 6) ≤ x2 → vp_in x2 16 ∧ (((g 12 (x2).toNatClampNeg) = (-1) → vp_in x2 16 ∧ vp_in x2 17 ∧ Cb_afterPull (g 13 (x2).toNatClampNeg) (g 14 (x2).toNatClampNeg) g (fun r8 g7 => vp_in (x2 + 1) 17 ∧ Hb_playFrom_2 (x2 + 1) (sgU g7 14 (x2 + 1).toNatClampNeg r8) Q)) ∧ (¬ (g 12 (x2).toNatClampNeg) = (-1) → Cb_afterLetIn x2 g (fun r3 g2 => vp_in (x2 + 1) 17 ∧ Hb_playFrom_2 (x2 + 1) (sgU g2 14 (x2 + 1).toNatClampNeg r3) Q)))))) : Hb_playFrom_2 x2 g Q := by
  refine e_iload_n (dx D_b_playFrom 2 rfl) rfl ?_
  refine e_aload_n (dx D_b_playFrom 3 rfl) rfl ?_
  refine e_getI (dx D_b_playFrom 4 rfl) fl_RX0_35 rfl rfl ?_
  refine e_icmp_ge (tgt := 58) (dx D_b_playFrom 5 rfl) (by decide) (fun c => ?_) (fun c => ?_)
  · replace h := h.1 c
    exact e_vret (dx D_b_playFrom 34 rfl) rfl ⟨rfl, h⟩
  · replace h := h.2 c
    refine e_aload_n (dx D_b_playFrom 6 rfl) rfl ?_
    refine e_getR (dx D_b_playFrom 7 rfl) fl_RX0_18 rfl rfl ?_
    refine e_iload_n (dx D_b_playFrom 8 rfl) rfl ?_
    refine q_iconst (v := 1) (dx D_b_playFrom 9 rfl) (by decide) ?_
    refine e_iadd (dx D_b_playFrom 10 rfl) ?_
    refine e_aload_n (dx D_b_playFrom 11 rfl) rfl ?_
    refine e_getR (dx D_b_playFrom 12 rfl) fl_RX0_9 rfl rfl ?_
    refine e_iload_n (dx D_b_playFrom 13 rfl) rfl ?_
    obtain ⟨hb1, h⟩ := h
    refine e_iald (dx D_b_playFrom 14 rfl) rfl hb1 ?_
    refine q_iconst (v := (-1)) (dx D_b_playFrom 15 rfl) (by decide) ?_
    refine e_icmp_ne (tgt := 46) (dx D_b_playFrom 16 rfl) (by decide) (fun c => ?_) (fun c => ?_)
    · replace h := h.2 c
      refine e_aload_n (dx D_b_playFrom 28 rfl) rfl ?_
      refine e_iload_n (dx D_b_playFrom 29 rfl) rfl ?_
      refine e_callVi (rest := [.int (x2 + 1), .ref 14]) [.int x2] (dx D_b_playFrom 30 rfl) ln_b_playFrom_47 rfl rfl rfl (Nat.le_of_ble_eq_true rfl) h (fun r3 g2 h => ?_)
      obtain ⟨hb4, h⟩ := h
      refine e_iast (dx D_b_playFrom 31 rfl) rfl hb4 ?_
      refine q_iinc (d := 1) (L' := [some (.ref 11), none, some (.int (x2 + 1))]) (dx D_b_playFrom 32 rfl) rfl (by decide) (by decide) rfl ?_
      refine e_goto (tgt := 2) (dx D_b_playFrom 33 rfl) (by decide) ?_
      exact h
    · replace h := h.1 c
      refine e_aload_n (dx D_b_playFrom 17 rfl) rfl ?_
      refine e_aload_n (dx D_b_playFrom 18 rfl) rfl ?_
      refine e_getR (dx D_b_playFrom 19 rfl) fl_RX0_15 rfl rfl ?_
      refine e_iload_n (dx D_b_playFrom 20 rfl) rfl ?_
      obtain ⟨hb5, h⟩ := h
      refine e_iald (dx D_b_playFrom 21 rfl) rfl hb5 ?_
      refine e_aload_n (dx D_b_playFrom 22 rfl) rfl ?_
      refine e_getR (dx D_b_playFrom 23 rfl) fl_RX0_18 rfl rfl ?_
      refine e_iload_n (dx D_b_playFrom 24 rfl) rfl ?_
      obtain ⟨hb6, h⟩ := h
      refine e_iald (dx D_b_playFrom 25 rfl) rfl hb6 ?_
      refine e_callVi (rest := [.int (x2 + 1), .ref 14]) [.int (g 13 (x2).toNatClampNeg), .int (g 14 (x2).toNatClampNeg)] (dx D_b_playFrom 26 rfl) ln_b_playFrom_43 rfl rfl rfl (Nat.le_of_ble_eq_true rfl) h (fun r8 g7 h => ?_)
      refine e_goto (tgt := 51) (dx D_b_playFrom 27 rfl) (by decide) ?_
      obtain ⟨hb9, h⟩ := h
      refine e_iast (dx D_b_playFrom 31 rfl) rfl hb9 ?_
      refine q_iinc (d := 1) (L' := [some (.ref 11), none, some (.int (x2 + 1))]) (dx D_b_playFrom 32 rfl) rfl (by decide) (by decide) rfl ?_
      refine e_goto (tgt := 2) (dx D_b_playFrom 33 rfl) (by decide) ?_
      exact h
abbrev Cb_add (x1 : Int32) (x2 : Int32) (g : Sg) (Q : Int32 → Sg → Prop) : Prop := Ci Mb_add [.ref 11, .int x1, .int x2] g Q
set_option maxRecDepth 20000 in
theorem Vb_add {x1 : Int32} {x2 : Int32} {g : Sg} {Q : Int32 → Sg → Prop} (h : (((g 11 6) < 16 → vp_in (g 11 6) 16 ∧ vp_in (g 11 6) 16 ∧ Cb_playFrom (((g 11 6) + 1) - 1) (sgU (sgU (sgU g 12 (g 11 6).toNatClampNeg x1) 13 (g 11 6).toNatClampNeg x2) 11 6 ((g 11 6) + 1)) (fun g3 => Q (g3 11 6) g3)) ∧ (¬ (g 11 6) < 16 → Q (-4) g))) : Cb_add x1 x2 g Q := by
  refine Cl.of 0 pl_X0 rfl ?_
  refine e_aload_n (dx D_b_add 0 rfl) rfl ?_
  refine e_getI (dx D_b_add 1 rfl) fl_RX0_35 rfl rfl ?_
  refine q_bipush (v := 16) (dx D_b_add 2 rfl) (by decide) ?_
  refine e_icmp_lt (tgt := 12) (dx D_b_add 3 rfl) (by decide) (fun c => ?_) (fun c => ?_)
  · replace h := h.1 c
    refine e_aload_n (dx D_b_add 6 rfl) rfl ?_
    refine e_getR (dx D_b_add 7 rfl) fl_RX0_9 rfl rfl ?_
    refine e_aload_n (dx D_b_add 8 rfl) rfl ?_
    refine e_getI (dx D_b_add 9 rfl) fl_RX0_35 rfl rfl ?_
    refine e_iload_n (dx D_b_add 10 rfl) rfl ?_
    obtain ⟨hb1, h⟩ := h
    refine e_iast (dx D_b_add 11 rfl) rfl hb1 ?_
    refine e_aload_n (dx D_b_add 12 rfl) rfl ?_
    refine e_getR (dx D_b_add 13 rfl) fl_RX0_15 rfl rfl ?_
    refine e_aload_n (dx D_b_add 14 rfl) rfl ?_
    refine e_getI (dx D_b_add 15 rfl) fl_RX0_35 rfl rfl ?_
    refine e_iload_n (dx D_b_add 16 rfl) rfl ?_
    obtain ⟨hb2, h⟩ := h
    refine e_iast (dx D_b_add 17 rfl) rfl hb2 ?_
    refine e_aload_n (dx D_b_add 18 rfl) rfl ?_
    refine e_dup (dx D_b_add 19 rfl) rfl ?_
    refine e_getI (dx D_b_add 20 rfl) fl_RX0_35 rfl rfl ?_
    refine q_iconst (v := 1) (dx D_b_add 21 rfl) (by decide) ?_
    refine e_iadd (dx D_b_add 22 rfl) ?_
    refine e_putI (dx D_b_add 23 rfl) fp_RX0_35 rfl rfl ?_
    refine e_aload_n (dx D_b_add 24 rfl) rfl ?_
    refine e_aload_n (dx D_b_add 25 rfl) rfl ?_
    refine e_getI (dx D_b_add 26 rfl) fl_RX0_35 rfl rfl ?_
    refine q_iconst (v := 1) (dx D_b_add 27 rfl) (by decide) ?_
    refine e_isub (dx D_b_add 28 rfl) ?_
    refine e_callVv (rest := []) [.int (((g 11 6) + 1) - 1)] (dx D_b_add 29 rfl) ln_b_add_39 rfl rfl rfl (Nat.le_of_ble_eq_true rfl) h (fun g3 h => ?_)
    refine e_aload_n (dx D_b_add 30 rfl) rfl ?_
    refine e_getI (dx D_b_add 31 rfl) fl_RX0_35 rfl rfl ?_
    exact e_iret (dx D_b_add 32 rfl) rfl rfl ⟨_, rfl, h⟩
  · replace h := h.2 c
    refine q_bipush (v := (-4)) (dx D_b_add 4 rfl) (by decide) ?_
    exact e_iret (dx D_b_add 5 rfl) rfl rfl ⟨_, rfl, h⟩
abbrev Cb_dropStep (g : Sg) (Q : Sg → Prop) : Prop := Cv Mb_dropStep [.ref 11] g Q
set_option maxRecDepth 20000 in
theorem Vb_dropStep {g : Sg} {Q : Sg → Prop} (h : (((g 11 6) ≤ 0 → Q g) ∧ (¬ (g 11 6) ≤ 0 → Q (sgU g 11 6 ((g 11 6) - 1))))) : Cb_dropStep g Q := by
  refine Cl.of 0 pl_X0 rfl ?_
  refine e_aload_n (dx D_b_dropStep 0 rfl) rfl ?_
  refine e_getI (dx D_b_dropStep 1 rfl) fl_RX0_35 rfl rfl ?_
  refine e_if_le (tgt := 17) (dx D_b_dropStep 2 rfl) (by decide) (fun c => ?_) (fun c => ?_)
  · replace h := h.1 c
    exact e_vret (dx D_b_dropStep 9 rfl) rfl ⟨rfl, h⟩
  · replace h := h.2 c
    refine e_aload_n (dx D_b_dropStep 3 rfl) rfl ?_
    refine e_dup (dx D_b_dropStep 4 rfl) rfl ?_
    refine e_getI (dx D_b_dropStep 5 rfl) fl_RX0_35 rfl rfl ?_
    refine q_iconst (v := 1) (dx D_b_dropStep 6 rfl) (by decide) ?_
    refine e_isub (dx D_b_dropStep 7 rfl) ?_
    refine e_putI (dx D_b_dropStep 8 rfl) fp_RX0_35 rfl rfl ?_
    exact e_vret (dx D_b_dropStep 9 rfl) rfl ⟨rfl, h⟩
abbrev Cb_firstNotDone (g : Sg) (Q : Int32 → Sg → Prop) : Prop := Ci Mb_firstNotDone [.ref 11] g Q
abbrev Hb_firstNotDone_2 (x1 : Int32) (g : Sg) (Q : Int32 → Sg → Prop) : Prop := Hi Mb_firstNotDone 2 [some (.ref 11), some (.int x1)] [] g Q
set_option maxRecDepth 20000 in
theorem Vb_firstNotDone {g : Sg} {Q : Int32 → Sg → Prop} (h : Hb_firstNotDone_2 0 g Q) : Cb_firstNotDone g Q := by
  refine Cl.of 1 pl_X0 rfl ?_
  refine q_iconst (v := 0) (dx D_b_firstNotDone 0 rfl) (by decide) ?_
  refine q_istore_n (L' := [some (.ref 11), some (.int 0)]) (dx D_b_firstNotDone 1 rfl) (by decide) rfl ?_
  exact h
set_option maxRecDepth 20000 in
theorem Vb_firstNotDone_2 {x1 : Int32} {g : Sg} {Q : Int32 → Sg → Prop} (h : (((g 11 6) ≤ x1 → Q (-1) g) ∧ (¬ (g 11 6) ≤ x1 → vp_in (x1 + 1) 17 ∧ vp_in x1 17 ∧ (((¬ g 14 (x1 + 1).toNatClampNeg = g 14 (x1).toNatClampNeg) → Hb_firstNotDone_2 (x1 + 1) g Q) ∧ (¬ (¬ g 14 (x1 + 1).toNatClampNeg = g 14 (x1).toNatClampNeg) → Q x1 g))))) : Hb_firstNotDone_2 x1 g Q := by
  refine e_iload_n (dx D_b_firstNotDone 2 rfl) rfl ?_
  refine e_aload_n (dx D_b_firstNotDone 3 rfl) rfl ?_
  refine e_getI (dx D_b_firstNotDone 4 rfl) fl_RX0_35 rfl rfl ?_
  refine e_icmp_ge (tgt := 26) (dx D_b_firstNotDone 5 rfl) (by decide) (fun c => ?_) (fun c => ?_)
  · replace h := h.1 c
    refine q_iconst (v := (-1)) (dx D_b_firstNotDone 14 rfl) (by decide) ?_
    exact e_iret (dx D_b_firstNotDone 15 rfl) rfl rfl ⟨_, rfl, h⟩
  · replace h := h.2 c
    refine e_aload_n (dx D_b_firstNotDone 6 rfl) rfl ?_
    refine e_iload_n (dx D_b_firstNotDone 7 rfl) rfl ?_
    obtain ⟨hb1, h⟩ := h
    obtain ⟨hb2, h⟩ := h
    refine e_callVi (Q1 := fun r g' => bP (¬ g 14 (x1 + 1).toNatClampNeg = g 14 (x1).toNatClampNeg) = r ∧ g = g') (rest := []) [.int x1] (dx D_b_firstNotDone 8 rfl) ln_b_firstNotDone_68 rfl rfl rfl (Nat.le_of_ble_eq_true rfl) (Ib_isDone hb1 hb2 ⟨rfl, rfl⟩) (fun r g' hh => ?_)
    obtain ⟨rfl, rfl⟩ := hh
    refine e_if_ne (tgt := 20) (dx D_b_firstNotDone 9 rfl) (by decide) (fun c => ?_) (fun c => ?_)
    · replace h := h.1 (bP_n c)
      refine q_iinc (d := 1) (L' := [some (.ref 11), some (.int (x1 + 1))]) (dx D_b_firstNotDone 12 rfl) rfl (by decide) (by decide) rfl ?_
      refine e_goto (tgt := 2) (dx D_b_firstNotDone 13 rfl) (by decide) ?_
      exact h
    · replace h := h.2 (bP_z c)
      refine e_iload_n (dx D_b_firstNotDone 10 rfl) rfl ?_
      exact e_iret (dx D_b_firstNotDone 11 rfl) rfl rfl ⟨_, rfl, h⟩
abbrev Cb_howManyDone (g : Sg) (Q : Int32 → Sg → Prop) : Prop := Ci Mb_howManyDone [.ref 11] g Q
abbrev Hb_howManyDone_4 (x1 : Int32) (x2 : Int32) (g : Sg) (Q : Int32 → Sg → Prop) : Prop := Hi Mb_howManyDone 4 [some (.ref 11), some (.int x1), some (.int x2)] [] g Q
set_option maxRecDepth 20000 in
theorem Vb_howManyDone {g : Sg} {Q : Int32 → Sg → Prop} (h : Hb_howManyDone_4 0 0 g Q) : Cb_howManyDone g Q := by
  refine Cl.of 2 pl_X0 rfl ?_
  refine q_iconst (v := 0) (dx D_b_howManyDone 0 rfl) (by decide) ?_
  refine q_istore_n (L' := [some (.ref 11), some (.int 0), none]) (dx D_b_howManyDone 1 rfl) (by decide) rfl ?_
  refine q_iconst (v := 0) (dx D_b_howManyDone 2 rfl) (by decide) ?_
  refine q_istore_n (L' := [some (.ref 11), some (.int 0), some (.int 0)]) (dx D_b_howManyDone 3 rfl) (by decide) rfl ?_
  exact h
set_option maxRecDepth 20000 in
theorem Vb_howManyDone_4 {x1 : Int32} {x2 : Int32} {g : Sg} {Q : Int32 → Sg → Prop} (h : (((g 11 6) ≤ x2 → Q x1 g) ∧ (¬ (g 11 6) ≤ x2 → vp_in (x2 + 1) 17 ∧ vp_in x2 17 ∧ (((¬ g 14 (x2 + 1).toNatClampNeg = g 14 (x2).toNatClampNeg) → Hb_howManyDone_4 (x1 + 1) (x2 + 1) g Q) ∧ (¬ (¬ g 14 (x2 + 1).toNatClampNeg = g 14 (x2).toNatClampNeg) → Hb_howManyDone_4 x1 (x2 + 1) g Q))))) : Hb_howManyDone_4 x1 x2 g Q := by
  refine e_iload_n (dx D_b_howManyDone 4 rfl) rfl ?_
  refine e_aload_n (dx D_b_howManyDone 5 rfl) rfl ?_
  refine e_getI (dx D_b_howManyDone 6 rfl) fl_RX0_35 rfl rfl ?_
  refine e_icmp_ge (tgt := 29) (dx D_b_howManyDone 7 rfl) (by decide) (fun c => ?_) (fun c => ?_)
  · replace h := h.1 c
    refine e_iload_n (dx D_b_howManyDone 15 rfl) rfl ?_
    exact e_iret (dx D_b_howManyDone 16 rfl) rfl rfl ⟨_, rfl, h⟩
  · replace h := h.2 c
    refine e_aload_n (dx D_b_howManyDone 8 rfl) rfl ?_
    refine e_iload_n (dx D_b_howManyDone 9 rfl) rfl ?_
    obtain ⟨hb1, h⟩ := h
    obtain ⟨hb2, h⟩ := h
    refine e_callVi (Q1 := fun r g' => bP (¬ g 14 (x2 + 1).toNatClampNeg = g 14 (x2).toNatClampNeg) = r ∧ g = g') (rest := []) [.int x2] (dx D_b_howManyDone 10 rfl) ln_b_howManyDone_68 rfl rfl rfl (Nat.le_of_ble_eq_true rfl) (Ib_isDone hb1 hb2 ⟨rfl, rfl⟩) (fun r g' hh => ?_)
    obtain ⟨rfl, rfl⟩ := hh
    refine e_if_eq (tgt := 23) (dx D_b_howManyDone 11 rfl) (by decide) (fun c => ?_) (fun c => ?_)
    · replace h := h.2 (bP_z c)
      refine q_iinc (d := 1) (L' := [some (.ref 11), some (.int x1), some (.int (x2 + 1))]) (dx D_b_howManyDone 13 rfl) rfl (by decide) (by decide) rfl ?_
      refine e_goto (tgt := 4) (dx D_b_howManyDone 14 rfl) (by decide) ?_
      exact h
    · replace h := h.1 (bP_n c)
      refine q_iinc (d := 1) (L' := [some (.ref 11), some (.int (x1 + 1)), some (.int x2)]) (dx D_b_howManyDone 12 rfl) rfl (by decide) (by decide) rfl ?_
      refine q_iinc (d := 1) (L' := [some (.ref 11), some (.int (x1 + 1)), some (.int (x2 + 1))]) (dx D_b_howManyDone 13 rfl) rfl (by decide) (by decide) rfl ?_
      refine e_goto (tgt := 4) (dx D_b_howManyDone 14 rfl) (by decide) ?_
      exact h
abbrev Cb_wiresIn (x1 : Int32) (x2 : Int32) (g : Sg) (Q : Int32 → Sg → Prop) : Prop := Ci Mb_wiresIn [.ref 11, .int x1, .int x2] g Q
abbrev Hb_wiresIn_5 (x1 : Int32) (x2 : Int32) (x3 : Int32) (x4 : Int32) (g : Sg) (Q : Int32 → Sg → Prop) : Prop := Hi Mb_wiresIn 5 [some (.ref 11), some (.int x1), some (.int x2), some (.int x3), some (.int x4)] [] g Q
set_option maxRecDepth 20000 in
theorem Vb_wiresIn {x1 : Int32} {x2 : Int32} {g : Sg} {Q : Int32 → Sg → Prop} (h : Hb_wiresIn_5 x1 x2 0 0 g Q) : Cb_wiresIn x1 x2 g Q := by
  refine Cl.of 2 pl_X0 rfl ?_
  refine q_iconst (v := 0) (dx D_b_wiresIn 0 rfl) (by decide) ?_
  refine q_istore_n (L' := [some (.ref 11), some (.int x1), some (.int x2), some (.int 0), none]) (dx D_b_wiresIn 1 rfl) (by decide) rfl ?_
  refine q_iconst (v := 0) (dx D_b_wiresIn 2 rfl) (by decide) ?_
  refine q_istore (L' := [some (.ref 11), some (.int x1), some (.int x2), some (.int 0), some (.int 0)]) (dx D_b_wiresIn 3 rfl) (by decide) rfl ?_
  exact h
set_option maxRecDepth 20000 in
theorem Vb_wiresIn_5 {x1 : Int32} {x2 : Int32} {x3 : Int32} {x4 : Int32} {g : Sg} {Q : Int32 → Sg → Prop} (h : ((16 ≤ x4 → Q x3 g) ∧ (¬ 16 ≤ x4 → vp_in x4 16 ∧ (((tbb (if tbb x2 x4 = true then g 15 (x4).toNatClampNeg else 0) x1 = true) → Hb_wiresIn_5 x1 x2 (x3 + 1) (x4 + 1) g Q) ∧ (¬ (tbb (if tbb x2 x4 = true then g 15 (x4).toNatClampNeg else 0) x1 = true) → Hb_wiresIn_5 x1 x2 x3 (x4 + 1) g Q))))) : Hb_wiresIn_5 x1 x2 x3 x4 g Q := by
  refine e_iload (dx D_b_wiresIn 4 rfl) rfl ?_
  refine q_bipush (v := 16) (dx D_b_wiresIn 5 rfl) (by decide) ?_
  refine e_icmp_ge (tgt := 35) (dx D_b_wiresIn 6 rfl) (by decide) (fun c => ?_) (fun c => ?_)
  · replace h := h.1 c
    refine e_iload_n (dx D_b_wiresIn 17 rfl) rfl ?_
    exact e_iret (dx D_b_wiresIn 18 rfl) rfl rfl ⟨_, rfl, h⟩
  · replace h := h.2 c
    refine e_aload_n (dx D_b_wiresIn 7 rfl) rfl ?_
    refine e_iload (dx D_b_wiresIn 8 rfl) rfl ?_
    refine e_iload_n (dx D_b_wiresIn 9 rfl) rfl ?_
    obtain ⟨hb1, h⟩ := h
    refine e_callVi (Q1 := fun r g' => (if tbb x2 x4 = true then g 15 (x4).toNatClampNeg else 0) = r ∧ g = g') (rest := []) [.int x4, .int x2] (dx D_b_wiresIn 10 rfl) ln_b_wiresIn_72 rfl rfl rfl (Nat.le_of_ble_eq_true rfl) (Ib_pipesOf hb1 ⟨rfl, rfl⟩) (fun r g' hh => ?_)
    obtain ⟨rfl, rfl⟩ := hh
    refine e_iload_n (dx D_b_wiresIn 11 rfl) rfl ?_
    refine e_callSNi (Q1 := fun r g' => bP (tbb (if tbb x2 x4 = true then g 15 (x4).toNatClampNeg else 0) x1 = true) = r ∧ g = g') (rest := []) [.int (if tbb x2 x4 = true then g 15 (x4).toNatClampNeg else 0), .int x1] (dx D_b_wiresIn 12 rfl) ln_b_wiresIn_65 rfl rfl (Nat.le_of_ble_eq_true rfl) (Ix_hasBit  ⟨rfl, rfl⟩) (fun r g' hh => ?_)
    obtain ⟨rfl, rfl⟩ := hh
    refine e_if_eq (tgt := 29) (dx D_b_wiresIn 13 rfl) (by decide) (fun c => ?_) (fun c => ?_)
    · replace h := h.2 (bP_z c)
      refine q_iinc (d := 1) (L' := [some (.ref 11), some (.int x1), some (.int x2), some (.int x3), some (.int (x4 + 1))]) (dx D_b_wiresIn 15 rfl) rfl (by decide) (by decide) rfl ?_
      refine e_goto (tgt := 5) (dx D_b_wiresIn 16 rfl) (by decide) ?_
      exact h
    · replace h := h.1 (bP_n c)
      refine q_iinc (d := 1) (L' := [some (.ref 11), some (.int x1), some (.int x2), some (.int (x3 + 1)), some (.int x4)]) (dx D_b_wiresIn 14 rfl) rfl (by decide) (by decide) rfl ?_
      refine q_iinc (d := 1) (L' := [some (.ref 11), some (.int x1), some (.int x2), some (.int (x3 + 1)), some (.int (x4 + 1))]) (dx D_b_wiresIn 15 rfl) rfl (by decide) (by decide) rfl ?_
      refine e_goto (tgt := 5) (dx D_b_wiresIn 16 rfl) (by decide) ?_
      exact h
abbrev Cb_fullPipes (x1 : Int32) (g : Sg) (Q : Int32 → Sg → Prop) : Prop := Ci Mb_fullPipes [.ref 11, .int x1] g Q
abbrev Hb_fullPipes_4 (x1 : Int32) (x2 : Int32) (x3 : Int32) (g : Sg) (Q : Int32 → Sg → Prop) : Prop := Hi Mb_fullPipes 4 [some (.ref 11), some (.int x1), some (.int x2), some (.int x3)] [] g Q
set_option maxRecDepth 20000 in
theorem Vb_fullPipes {x1 : Int32} {g : Sg} {Q : Int32 → Sg → Prop} (h : Hb_fullPipes_4 x1 0 0 g Q) : Cb_fullPipes x1 g Q := by
  refine Cl.of 2 pl_X0 rfl ?_
  refine q_iconst (v := 0) (dx D_b_fullPipes 0 rfl) (by decide) ?_
  refine q_istore_n (L' := [some (.ref 11), some (.int x1), some (.int 0), none]) (dx D_b_fullPipes 1 rfl) (by decide) rfl ?_
  refine q_iconst (v := 0) (dx D_b_fullPipes 2 rfl) (by decide) ?_
  refine q_istore_n (L' := [some (.ref 11), some (.int x1), some (.int 0), some (.int 0)]) (dx D_b_fullPipes 3 rfl) (by decide) rfl ?_
  exact h
set_option maxRecDepth 20000 in
theorem Vb_fullPipes_4 {x1 : Int32} {x2 : Int32} {x3 : Int32} {g : Sg} {Q : Int32 → Sg → Prop} (h : (((g 1 8) ≤ x3 → Q x2 g) ∧ (¬ (g 1 8) ≤ x3 → Cb_wiresIn x3 x1 g (fun r2 g1 => ((r2 < (g1 1 10) → Hb_fullPipes_4 x1 x2 (x3 + 1) g1 Q) ∧ (¬ r2 < (g1 1 10) → Hb_fullPipes_4 x1 (x2 ||| (sb x3)) (x3 + 1) g1 Q)))))) : Hb_fullPipes_4 x1 x2 x3 g Q := by
  refine e_iload_n (dx D_b_fullPipes 4 rfl) rfl ?_
  refine e_aload_n (dx D_b_fullPipes 5 rfl) rfl ?_
  refine e_getR (dx D_b_fullPipes 6 rfl) fl_RX0_34 rfl rfl ?_
  refine e_getI (dx D_b_fullPipes 7 rfl) fl_RX0_75 rfl rfl ?_
  refine e_icmp_ge (tgt := 44) (dx D_b_fullPipes 8 rfl) (by decide) (fun c => ?_) (fun c => ?_)
  · replace h := h.1 c
    refine e_iload_n (dx D_b_fullPipes 24 rfl) rfl ?_
    exact e_iret (dx D_b_fullPipes 25 rfl) rfl rfl ⟨_, rfl, h⟩
  · replace h := h.2 c
    refine e_aload_n (dx D_b_fullPipes 9 rfl) rfl ?_
    refine e_iload_n (dx D_b_fullPipes 10 rfl) rfl ?_
    refine e_iload_n (dx D_b_fullPipes 11 rfl) rfl ?_
    refine e_callVi (rest := []) [.int x3, .int x1] (dx D_b_fullPipes 12 rfl) ln_b_fullPipes_78 rfl rfl rfl (Nat.le_of_ble_eq_true rfl) h (fun r2 g1 h => ?_)
    refine e_aload_n (dx D_b_fullPipes 13 rfl) rfl ?_
    refine e_getR (dx D_b_fullPipes 14 rfl) fl_RX0_34 rfl rfl ?_
    refine e_getI (dx D_b_fullPipes 15 rfl) fl_RX0_81 rfl rfl ?_
    refine e_icmp_lt (tgt := 38) (dx D_b_fullPipes 16 rfl) (by decide) (fun c => ?_) (fun c => ?_)
    · replace h := h.1 c
      refine q_iinc (d := 1) (L' := [some (.ref 11), some (.int x1), some (.int x2), some (.int (x3 + 1))]) (dx D_b_fullPipes 22 rfl) rfl (by decide) (by decide) rfl ?_
      refine e_goto (tgt := 4) (dx D_b_fullPipes 23 rfl) (by decide) ?_
      exact h
    · replace h := h.2 c
      refine e_iload_n (dx D_b_fullPipes 17 rfl) rfl ?_
      refine e_iload_n (dx D_b_fullPipes 18 rfl) rfl ?_
      refine e_callSNi (Q1 := fun r g' => (sb x3) = r ∧ g1 = g') (rest := [.int x2]) [.int x3] (dx D_b_fullPipes 19 rfl) ln_b_fullPipes_62 rfl rfl (Nat.le_of_ble_eq_true rfl) (Ix_bit  ⟨rfl, rfl⟩) (fun r g' hh => ?_)
      obtain ⟨rfl, rfl⟩ := hh
      refine e_ior (dx D_b_fullPipes 20 rfl) ?_
      refine q_istore_n (L' := [some (.ref 11), some (.int x1), some (.int (x2 ||| (sb x3))), some (.int x3)]) (dx D_b_fullPipes 21 rfl) (by decide) rfl ?_
      refine q_iinc (d := 1) (L' := [some (.ref 11), some (.int x1), some (.int (x2 ||| (sb x3))), some (.int (x3 + 1))]) (dx D_b_fullPipes 22 rfl) rfl (by decide) (by decide) rfl ?_
      refine e_goto (tgt := 4) (dx D_b_fullPipes 23 rfl) (by decide) ?_
      exact h
abbrev Cb_loadNow (g : Sg) (Q : Sg → Prop) : Prop := Cv Mb_loadNow [.ref 11] g Q
set_option maxRecDepth 20000 in
theorem Vb_loadNow {g : Sg} {Q : Sg → Prop} (h : vp_in (g 11 6) 17 ∧ Cb_fillLoad (g 14 (g 11 6).toNatClampNeg) g (fun g2 => Q g2)) : Cb_loadNow g Q := by
  refine Cl.of 0 pl_X0 rfl ?_
  refine e_aload_n (dx D_b_loadNow 0 rfl) rfl ?_
  refine e_aload_n (dx D_b_loadNow 1 rfl) rfl ?_
  obtain ⟨hb1, h⟩ := h
  refine e_callVi (Q1 := fun r g' => (g 14 (g 11 6).toNatClampNeg) = r ∧ g = g') (rest := [.ref 11]) [] (dx D_b_loadNow 2 rfl) ln_b_loadNow_84 rfl rfl rfl (Nat.le_of_ble_eq_true rfl) (Ib_lyingNow hb1 ⟨rfl, rfl⟩) (fun r g' hh => ?_)
  obtain ⟨rfl, rfl⟩ := hh
  refine e_callVv (rest := []) [.int (g 14 (g 11 6).toNatClampNeg)] (dx D_b_loadNow 3 rfl) ln_b_loadNow_51 rfl rfl rfl (Nat.le_of_ble_eq_true rfl) h (fun g2 h => ?_)
  exact e_vret (dx D_b_loadNow 4 rfl) rfl ⟨rfl, h⟩
abbrev Cb_drawnOutWith (x1 : Int32) (g : Sg) (Q : Int32 → Sg → Prop) : Prop := Ci Mb_drawnOutWith [.ref 11, .int x1] g Q
abbrev Hb_drawnOutWith_23 (x2 : Int32) (x3 : Int32) (x4 : Int32) (x5 : Int32) (g : Sg) (Q : Int32 → Sg → Prop) : Prop := Hi Mb_drawnOutWith 23 [some (.ref 11), none, some (.int x2), some (.int x3), some (.int x4), some (.int x5), none] [] g Q
set_option maxRecDepth 20000 in
theorem Vb_drawnOutWith {x1 : Int32} {g : Sg} {Q : Int32 → Sg → Prop} (h : vp_in (g 11 6) 17 ∧ vp_in x1 16 ∧ Hb_drawnOutWith_23 (g 14 (g 11 6).toNatClampNeg) (sb x1) (g 15 (x1).toNatClampNeg) (x1 + 1) g Q) : Cb_drawnOutWith x1 g Q := by
  refine Cl.of 5 pl_X0 rfl ?_
  refine e_aload_n (dx D_b_drawnOutWith 0 rfl) rfl ?_
  obtain ⟨hb1, h⟩ := h
  refine e_callVi (Q1 := fun r g' => (g 14 (g 11 6).toNatClampNeg) = r ∧ g = g') (rest := []) [] (dx D_b_drawnOutWith 1 rfl) ln_b_drawnOutWith_84 rfl rfl rfl (Nat.le_of_ble_eq_true rfl) (Ib_lyingNow hb1 ⟨rfl, rfl⟩) (fun r g' hh => ?_)
  obtain ⟨rfl, rfl⟩ := hh
  refine q_istore_n (L' := [some (.ref 11), some (.int x1), some (.int (g 14 (g 11 6).toNatClampNeg)), none, none, none, none]) (dx D_b_drawnOutWith 2 rfl) (by decide) rfl ?_
  refine e_iload_n (dx D_b_drawnOutWith 3 rfl) rfl ?_
  refine e_callSNi (Q1 := fun r g' => (sb x1) = r ∧ g = g') (rest := []) [.int x1] (dx D_b_drawnOutWith 4 rfl) ln_b_drawnOutWith_62 rfl rfl (Nat.le_of_ble_eq_true rfl) (Ix_bit  ⟨rfl, rfl⟩) (fun r g' hh => ?_)
  obtain ⟨rfl, rfl⟩ := hh
  refine q_istore_n (L' := [some (.ref 11), some (.int x1), some (.int (g 14 (g 11 6).toNatClampNeg)), some (.int (sb x1)), none, none, none]) (dx D_b_drawnOutWith 5 rfl) (by decide) rfl ?_
  refine e_aload_n (dx D_b_drawnOutWith 6 rfl) rfl ?_
  refine e_getR (dx D_b_drawnOutWith 7 rfl) fl_RX0_21 rfl rfl ?_
  refine e_iload_n (dx D_b_drawnOutWith 8 rfl) rfl ?_
  obtain ⟨hb2, h⟩ := h
  refine e_iald (dx D_b_drawnOutWith 9 rfl) rfl hb2 ?_
  refine q_istore (L' := [some (.ref 11), some (.int x1), some (.int (g 14 (g 11 6).toNatClampNeg)), some (.int (sb x1)), some (.int (g 15 (x1).toNatClampNeg)), none, none]) (dx D_b_drawnOutWith 10 rfl) (by decide) rfl ?_
  refine e_iload_n (dx D_b_drawnOutWith 11 rfl) rfl ?_
  refine q_iconst (v := 1) (dx D_b_drawnOutWith 12 rfl) (by decide) ?_
  refine e_iadd (dx D_b_drawnOutWith 13 rfl) ?_
  refine q_istore (L' := [some (.ref 11), some (.int x1), some (.int (g 14 (g 11 6).toNatClampNeg)), some (.int (sb x1)), some (.int (g 15 (x1).toNatClampNeg)), some (.int (x1 + 1)), none]) (dx D_b_drawnOutWith 14 rfl) (by decide) rfl ?_
  exact Wp.mask [true, false, true, true, true, true, false] h
set_option maxRecDepth 20000 in
theorem Vb_drawnOutWith_23 {x2 : Int32} {x3 : Int32} {x4 : Int32} {x5 : Int32} {g : Sg} {Q : Int32 → Sg → Prop} (h : ((16 ≤ x5 → Q x3 g) ∧ (¬ 16 ≤ x5 → vp_in x5 16 ∧ ((((if tbb x2 x5 = true then g 15 (x5).toNatClampNeg else 0) &&& x4) = 0 → Hb_drawnOutWith_23 x2 x3 x4 (x5 + 1) g Q) ∧ (¬ ((if tbb x2 x5 = true then g 15 (x5).toNatClampNeg else 0) &&& x4) = 0 → Hb_drawnOutWith_23 x2 (x3 ||| (sb x5)) (x4 ||| (if tbb x2 x5 = true then g 15 (x5).toNatClampNeg else 0)) (x5 + 1) g Q))))) : Hb_drawnOutWith_23 x2 x3 x4 x5 g Q := by
  refine e_iload (dx D_b_drawnOutWith 15 rfl) rfl ?_
  refine q_bipush (v := 16) (dx D_b_drawnOutWith 16 rfl) (by decide) ?_
  refine e_icmp_ge (tgt := 68) (dx D_b_drawnOutWith 17 rfl) (by decide) (fun c => ?_) (fun c => ?_)
  · replace h := h.1 c
    refine e_iload_n (dx D_b_drawnOutWith 38 rfl) rfl ?_
    exact e_iret (dx D_b_drawnOutWith 39 rfl) rfl rfl ⟨_, rfl, h⟩
  · replace h := h.2 c
    refine e_aload_n (dx D_b_drawnOutWith 18 rfl) rfl ?_
    refine e_iload (dx D_b_drawnOutWith 19 rfl) rfl ?_
    refine e_iload_n (dx D_b_drawnOutWith 20 rfl) rfl ?_
    obtain ⟨hb1, h⟩ := h
    refine e_callVi (Q1 := fun r g' => (if tbb x2 x5 = true then g 15 (x5).toNatClampNeg else 0) = r ∧ g = g') (rest := []) [.int x5, .int x2] (dx D_b_drawnOutWith 21 rfl) ln_b_drawnOutWith_72 rfl rfl rfl (Nat.le_of_ble_eq_true rfl) (Ib_pipesOf hb1 ⟨rfl, rfl⟩) (fun r g' hh => ?_)
    obtain ⟨rfl, rfl⟩ := hh
    refine q_istore (L' := [some (.ref 11), none, some (.int x2), some (.int x3), some (.int x4), some (.int x5), some (.int (if tbb x2 x5 = true then g 15 (x5).toNatClampNeg else 0))]) (dx D_b_drawnOutWith 22 rfl) (by decide) rfl ?_
    refine e_iload (dx D_b_drawnOutWith 23 rfl) rfl ?_
    refine e_iload (dx D_b_drawnOutWith 24 rfl) rfl ?_
    refine e_iand (dx D_b_drawnOutWith 25 rfl) ?_
    refine e_if_eq (tgt := 62) (dx D_b_drawnOutWith 26 rfl) (by decide) (fun c => ?_) (fun c => ?_)
    · replace h := h.1 c
      refine q_iinc (d := 1) (L' := [some (.ref 11), none, some (.int x2), some (.int x3), some (.int x4), some (.int (x5 + 1)), some (.int (if tbb x2 x5 = true then g 15 (x5).toNatClampNeg else 0))]) (dx D_b_drawnOutWith 36 rfl) rfl (by decide) (by decide) rfl ?_
      refine e_goto (tgt := 23) (dx D_b_drawnOutWith 37 rfl) (by decide) ?_
      exact Wp.mask [true, false, true, true, true, true, false] h
    · replace h := h.2 c
      refine e_iload_n (dx D_b_drawnOutWith 27 rfl) rfl ?_
      refine e_iload (dx D_b_drawnOutWith 28 rfl) rfl ?_
      refine e_callSNi (Q1 := fun r g' => (sb x5) = r ∧ g = g') (rest := [.int x3]) [.int x5] (dx D_b_drawnOutWith 29 rfl) ln_b_drawnOutWith_62 rfl rfl (Nat.le_of_ble_eq_true rfl) (Ix_bit  ⟨rfl, rfl⟩) (fun r g' hh => ?_)
      obtain ⟨rfl, rfl⟩ := hh
      refine e_ior (dx D_b_drawnOutWith 30 rfl) ?_
      refine q_istore_n (L' := [some (.ref 11), none, some (.int x2), some (.int (x3 ||| (sb x5))), some (.int x4), some (.int x5), some (.int (if tbb x2 x5 = true then g 15 (x5).toNatClampNeg else 0))]) (dx D_b_drawnOutWith 31 rfl) (by decide) rfl ?_
      refine e_iload (dx D_b_drawnOutWith 32 rfl) rfl ?_
      refine e_iload (dx D_b_drawnOutWith 33 rfl) rfl ?_
      refine e_ior (dx D_b_drawnOutWith 34 rfl) ?_
      refine q_istore (L' := [some (.ref 11), none, some (.int x2), some (.int (x3 ||| (sb x5))), some (.int (x4 ||| (if tbb x2 x5 = true then g 15 (x5).toNatClampNeg else 0))), some (.int x5), some (.int (if tbb x2 x5 = true then g 15 (x5).toNatClampNeg else 0))]) (dx D_b_drawnOutWith 35 rfl) (by decide) rfl ?_
      refine q_iinc (d := 1) (L' := [some (.ref 11), none, some (.int x2), some (.int (x3 ||| (sb x5))), some (.int (x4 ||| (if tbb x2 x5 = true then g 15 (x5).toNatClampNeg else 0))), some (.int (x5 + 1)), some (.int (if tbb x2 x5 = true then g 15 (x5).toNatClampNeg else 0))]) (dx D_b_drawnOutWith 36 rfl) rfl (by decide) (by decide) rfl ?_
      refine e_goto (tgt := 23) (dx D_b_drawnOutWith 37 rfl) (by decide) ?_
      exact Wp.mask [true, false, true, true, true, true, false] h
abbrev Cb_joinedTo (x1 : Int32) (x2 : Int32) (g : Sg) (Q : Int32 → Sg → Prop) : Prop := Ci Mb_joinedTo [.ref 11, .int x1, .int x2] g Q
abbrev Hb_joinedTo_11 (x2 : Int32) (x3 : Int32) (x4 : Int32) (x5 : Int32) (g : Sg) (Q : Int32 → Sg → Prop) : Prop := Hi Mb_joinedTo 11 [some (.ref 11), none, some (.int x2), some (.int x3), some (.int x4), some (.int x5), none] [] g Q
abbrev Hb_joinedTo_30 (x2 : Int32) (x3 : Int32) (x4 : Int32) (x5 : Int32) (x6 : Int32) (g : Sg) (Q : Int32 → Sg → Prop) : Prop := Hi Mb_joinedTo 30 [some (.ref 11), none, some (.int x2), some (.int x3), some (.int x4), some (.int x5), some (.int x6)] [] g Q
set_option maxRecDepth 20000 in
theorem Vb_joinedTo {x1 : Int32} {x2 : Int32} {g : Sg} {Q : Int32 → Sg → Prop} (h : Hb_joinedTo_11 x2 (sb x1) 0 0 g Q) : Cb_joinedTo x1 x2 g Q := by
  refine Cl.of 4 pl_X0 rfl ?_
  refine e_iload_n (dx D_b_joinedTo 0 rfl) rfl ?_
  refine e_callSNi (Q1 := fun r g' => (sb x1) = r ∧ g = g') (rest := []) [.int x1] (dx D_b_joinedTo 1 rfl) ln_b_joinedTo_62 rfl rfl (Nat.le_of_ble_eq_true rfl) (Ix_bit  ⟨rfl, rfl⟩) (fun r g' hh => ?_)
  obtain ⟨rfl, rfl⟩ := hh
  refine q_istore_n (L' := [some (.ref 11), some (.int x1), some (.int x2), some (.int (sb x1)), none, none, none]) (dx D_b_joinedTo 2 rfl) (by decide) rfl ?_
  refine q_iconst (v := 0) (dx D_b_joinedTo 3 rfl) (by decide) ?_
  refine q_istore (L' := [some (.ref 11), some (.int x1), some (.int x2), some (.int (sb x1)), some (.int 0), none, none]) (dx D_b_joinedTo 4 rfl) (by decide) rfl ?_
  refine q_iconst (v := 0) (dx D_b_joinedTo 5 rfl) (by decide) ?_
  refine q_istore (L' := [some (.ref 11), some (.int x1), some (.int x2), some (.int (sb x1)), some (.int 0), some (.int 0), none]) (dx D_b_joinedTo 6 rfl) (by decide) rfl ?_
  exact Wp.mask [true, false, true, true, true, true, false] h
set_option maxRecDepth 20000 in
theorem Vb_joinedTo_11 {x2 : Int32} {x3 : Int32} {x4 : Int32} {x5 : Int32} {g : Sg} {Q : Int32 → Sg → Prop} (h : ((8 ≤ x5 → Q x3 g) ∧ (¬ 8 ≤ x5 → ((x3 = x4 → Q x3 g) ∧ (¬ x3 = x4 → Hb_joinedTo_30 x2 x3 x3 x5 0 g Q))))) : Hb_joinedTo_11 x2 x3 x4 x5 g Q := by
  refine e_iload (dx D_b_joinedTo 7 rfl) rfl ?_
  refine q_bipush (v := 8) (dx D_b_joinedTo 8 rfl) (by decide) ?_
  refine e_icmp_ge (tgt := 78) (dx D_b_joinedTo 9 rfl) (by decide) (fun c => ?_) (fun c => ?_)
  · replace h := h.1 c
    refine e_iload_n (dx D_b_joinedTo 40 rfl) rfl ?_
    exact e_iret (dx D_b_joinedTo 41 rfl) rfl rfl ⟨_, rfl, h⟩
  · replace h := h.2 c
    refine e_iload_n (dx D_b_joinedTo 10 rfl) rfl ?_
    refine e_iload (dx D_b_joinedTo 11 rfl) rfl ?_
    refine e_icmp_eq (tgt := 78) (dx D_b_joinedTo 12 rfl) (by decide) (fun c => ?_) (fun c => ?_)
    · replace h := h.1 c
      refine e_iload_n (dx D_b_joinedTo 40 rfl) rfl ?_
      exact e_iret (dx D_b_joinedTo 41 rfl) rfl rfl ⟨_, rfl, h⟩
    · replace h := h.2 c
      refine e_iload_n (dx D_b_joinedTo 13 rfl) rfl ?_
      refine q_istore (L' := [some (.ref 11), none, some (.int x2), some (.int x3), some (.int x3), some (.int x5), none]) (dx D_b_joinedTo 14 rfl) (by decide) rfl ?_
      refine q_iconst (v := 0) (dx D_b_joinedTo 15 rfl) (by decide) ?_
      refine q_istore (L' := [some (.ref 11), none, some (.int x2), some (.int x3), some (.int x3), some (.int x5), some (.int 0)]) (dx D_b_joinedTo 16 rfl) (by decide) rfl ?_
      exact h
set_option maxRecDepth 20000 in
theorem Vb_joinedTo_30 {x2 : Int32} {x3 : Int32} {x4 : Int32} {x5 : Int32} {x6 : Int32} {g : Sg} {Q : Int32 → Sg → Prop} (h : ((16 ≤ x6 → Hb_joinedTo_11 x2 x3 x4 (x5 + 1) g Q) ∧ (¬ 16 ≤ x6 → (((tbb x2 x6 = true) → vp_in x6 16 ∧ (((x3 &&& (sb (g 12 (x6).toNatClampNeg) ||| sb (g 13 (x6).toNatClampNeg))) = 0 → Hb_joinedTo_30 x2 x3 x4 x5 (x6 + 1) g Q) ∧ (¬ (x3 &&& (sb (g 12 (x6).toNatClampNeg) ||| sb (g 13 (x6).toNatClampNeg))) = 0 → vp_in x6 16 ∧ Hb_joinedTo_30 x2 (x3 ||| (sb (g 12 (x6).toNatClampNeg) ||| sb (g 13 (x6).toNatClampNeg))) x4 x5 (x6 + 1) g Q))) ∧ (¬ (tbb x2 x6 = true) → Hb_joinedTo_30 x2 x3 x4 x5 (x6 + 1) g Q))))) : Hb_joinedTo_30 x2 x3 x4 x5 x6 g Q := by
  refine e_iload (dx D_b_joinedTo 17 rfl) rfl ?_
  refine q_bipush (v := 16) (dx D_b_joinedTo 18 rfl) (by decide) ?_
  refine e_icmp_ge (tgt := 72) (dx D_b_joinedTo 19 rfl) (by decide) (fun c => ?_) (fun c => ?_)
  · replace h := h.1 c
    refine q_iinc (d := 1) (L' := [some (.ref 11), none, some (.int x2), some (.int x3), some (.int x4), some (.int (x5 + 1)), some (.int x6)]) (dx D_b_joinedTo 38 rfl) rfl (by decide) (by decide) rfl ?_
    refine e_goto (tgt := 11) (dx D_b_joinedTo 39 rfl) (by decide) ?_
    exact Wp.mask [true, false, true, true, true, true, false] h
  · replace h := h.2 c
    refine e_iload_n (dx D_b_joinedTo 20 rfl) rfl ?_
    refine e_iload (dx D_b_joinedTo 21 rfl) rfl ?_
    refine e_callSNi (Q1 := fun r g' => bP (tbb x2 x6 = true) = r ∧ g = g') (rest := []) [.int x2, .int x6] (dx D_b_joinedTo 22 rfl) ln_b_joinedTo_65 rfl rfl (Nat.le_of_ble_eq_true rfl) (Ix_hasBit  ⟨rfl, rfl⟩) (fun r g' hh => ?_)
    obtain ⟨rfl, rfl⟩ := hh
    refine e_if_eq (tgt := 66) (dx D_b_joinedTo 23 rfl) (by decide) (fun c => ?_) (fun c => ?_)
    · replace h := h.2 (bP_z c)
      refine q_iinc (d := 1) (L' := [some (.ref 11), none, some (.int x2), some (.int x3), some (.int x4), some (.int x5), some (.int (x6 + 1))]) (dx D_b_joinedTo 36 rfl) rfl (by decide) (by decide) rfl ?_
      refine e_goto (tgt := 30) (dx D_b_joinedTo 37 rfl) (by decide) ?_
      exact h
    · replace h := h.1 (bP_n c)
      refine e_iload_n (dx D_b_joinedTo 24 rfl) rfl ?_
      refine e_aload_n (dx D_b_joinedTo 25 rfl) rfl ?_
      refine e_iload (dx D_b_joinedTo 26 rfl) rfl ?_
      obtain ⟨hb1, h⟩ := h
      refine e_callVi (Q1 := fun r g' => (sb (g 12 (x6).toNatClampNeg) ||| sb (g 13 (x6).toNatClampNeg)) = r ∧ g = g') (rest := [.int x3]) [.int x6] (dx D_b_joinedTo 27 rfl) ln_b_joinedTo_96 rfl rfl rfl (Nat.le_of_ble_eq_true rfl) (Ib_endsOf hb1 ⟨rfl, rfl⟩) (fun r g' hh => ?_)
      obtain ⟨rfl, rfl⟩ := hh
      refine e_iand (dx D_b_joinedTo 28 rfl) ?_
      refine e_if_eq (tgt := 66) (dx D_b_joinedTo 29 rfl) (by decide) (fun c => ?_) (fun c => ?_)
      · replace h := h.1 c
        refine q_iinc (d := 1) (L' := [some (.ref 11), none, some (.int x2), some (.int x3), some (.int x4), some (.int x5), some (.int (x6 + 1))]) (dx D_b_joinedTo 36 rfl) rfl (by decide) (by decide) rfl ?_
        refine e_goto (tgt := 30) (dx D_b_joinedTo 37 rfl) (by decide) ?_
        exact h
      · replace h := h.2 c
        refine e_iload_n (dx D_b_joinedTo 30 rfl) rfl ?_
        refine e_aload_n (dx D_b_joinedTo 31 rfl) rfl ?_
        refine e_iload (dx D_b_joinedTo 32 rfl) rfl ?_
        obtain ⟨hb2, h⟩ := h
        refine e_callVi (Q1 := fun r g' => (sb (g 12 (x6).toNatClampNeg) ||| sb (g 13 (x6).toNatClampNeg)) = r ∧ g = g') (rest := [.int x3]) [.int x6] (dx D_b_joinedTo 33 rfl) ln_b_joinedTo_96 rfl rfl rfl (Nat.le_of_ble_eq_true rfl) (Ib_endsOf hb2 ⟨rfl, rfl⟩) (fun r g' hh => ?_)
        obtain ⟨rfl, rfl⟩ := hh
        refine e_ior (dx D_b_joinedTo 34 rfl) ?_
        refine q_istore_n (L' := [some (.ref 11), none, some (.int x2), some (.int (x3 ||| (sb (g 12 (x6).toNatClampNeg) ||| sb (g 13 (x6).toNatClampNeg)))), some (.int x4), some (.int x5), some (.int x6)]) (dx D_b_joinedTo 35 rfl) (by decide) rfl ?_
        refine q_iinc (d := 1) (L' := [some (.ref 11), none, some (.int x2), some (.int (x3 ||| (sb (g 12 (x6).toNatClampNeg) ||| sb (g 13 (x6).toNatClampNeg)))), some (.int x4), some (.int x5), some (.int (x6 + 1))]) (dx D_b_joinedTo 36 rfl) rfl (by decide) (by decide) rfl ?_
        refine e_goto (tgt := 30) (dx D_b_joinedTo 37 rfl) (by decide) ?_
        exact h
abbrev Cf_hasRoom (x1 : Int32) (x2 : Int32) (g : Sg) (Q : Int32 → Sg → Prop) : Prop := Ci Mf_hasRoom [.ref 16, .int x1, .int x2] g Q
set_option maxRecDepth 20000 in
theorem Vf_hasRoom {x1 : Int32} {x2 : Int32} {g : Sg} {Q : Int32 → Sg → Prop} (h : (((tbb (g 1 9) x1 = true) → Q 0 g) ∧ (¬ (tbb (g 1 9) x1 = true) → vp_in x1 16 ∧ (((g 3 (x1).toNatClampNeg) = x2 → vp_in x1 16 ∧ vp_in x1 16 ∧ ((((g 1 10) - (g 8 (x1).toNatClampNeg)) ≤ (g 17 (x1).toNatClampNeg) → Q 0 g) ∧ (¬ ((g 1 10) - (g 8 (x1).toNatClampNeg)) ≤ (g 17 (x1).toNatClampNeg) → Q 1 g))) ∧ (¬ (g 3 (x1).toNatClampNeg) = x2 → vp_in x1 16 ∧ vp_in x1 16 ∧ ((((g 1 10) - (g 8 (x1).toNatClampNeg)) ≤ (-(g 17 (x1).toNatClampNeg)) → Q 0 g) ∧ (¬ ((g 1 10) - (g 8 (x1).toNatClampNeg)) ≤ (-(g 17 (x1).toNatClampNeg)) → Q 1 g))))))) : Cf_hasRoom x1 x2 g Q := by
  refine Cl.of 1 pl_X1 rfl ?_
  refine e_aload_n (dx D_f_hasRoom 0 rfl) rfl ?_
  refine e_getR (dx D_f_hasRoom 1 rfl) fl_RX1_31 rfl rfl ?_
  refine e_iload_n (dx D_f_hasRoom 2 rfl) rfl ?_
  refine e_callVi (Q1 := fun r g' => bP (tbb (g 1 9) x1 = true) = r ∧ g = g') (rest := []) [.int x1] (dx D_f_hasRoom 3 rfl) ln_f_hasRoom_69 rfl rfl rfl (Nat.le_of_ble_eq_true rfl) (Ip_isShut  ⟨rfl, rfl⟩) (fun r g' hh => ?_)
  obtain ⟨rfl, rfl⟩ := hh
  refine e_if_eq (tgt := 13) (dx D_f_hasRoom 4 rfl) (by decide) (fun c => ?_) (fun c => ?_)
  · replace h := h.2 (bP_z c)
    refine e_aload_n (dx D_f_hasRoom 7 rfl) rfl ?_
    refine e_getR (dx D_f_hasRoom 8 rfl) fl_RX1_31 rfl rfl ?_
    refine e_getR (dx D_f_hasRoom 9 rfl) fl_RX1_73 rfl rfl ?_
    refine e_iload_n (dx D_f_hasRoom 10 rfl) rfl ?_
    obtain ⟨hb1, h⟩ := h
    refine e_iald (dx D_f_hasRoom 11 rfl) rfl hb1 ?_
    refine e_iload_n (dx D_f_hasRoom 12 rfl) rfl ?_
    refine e_icmp_ne (tgt := 35) (dx D_f_hasRoom 13 rfl) (by decide) (fun c => ?_) (fun c => ?_)
    · replace h := h.2 c
      refine e_aload_n (dx D_f_hasRoom 19 rfl) rfl ?_
      refine e_getR (dx D_f_hasRoom 20 rfl) fl_RX1_9 rfl rfl ?_
      refine e_iload_n (dx D_f_hasRoom 21 rfl) rfl ?_
      obtain ⟨hb2, h⟩ := h
      refine e_iald (dx D_f_hasRoom 22 rfl) rfl hb2 ?_
      refine e_ineg (dx D_f_hasRoom 23 rfl) ?_
      refine q_istore_n (L' := [some (.ref 16), some (.int x1), some (.int x2), some (.int (-(g 17 (x1).toNatClampNeg)))]) (dx D_f_hasRoom 24 rfl) (by decide) rfl ?_
      refine e_iload_n (dx D_f_hasRoom 25 rfl) rfl ?_
      refine e_aload_n (dx D_f_hasRoom 26 rfl) rfl ?_
      refine e_getR (dx D_f_hasRoom 27 rfl) fl_RX1_31 rfl rfl ?_
      refine e_getI (dx D_f_hasRoom 28 rfl) fl_RX1_76 rfl rfl ?_
      refine e_aload_n (dx D_f_hasRoom 29 rfl) rfl ?_
      refine e_getR (dx D_f_hasRoom 30 rfl) fl_RX1_21 rfl rfl ?_
      refine e_getR (dx D_f_hasRoom 31 rfl) fl_RX1_79 rfl rfl ?_
      refine e_iload_n (dx D_f_hasRoom 32 rfl) rfl ?_
      obtain ⟨hb3, h⟩ := h
      refine e_iald (dx D_f_hasRoom 33 rfl) rfl hb3 ?_
      refine e_isub (dx D_f_hasRoom 34 rfl) ?_
      refine e_icmp_ge (tgt := 68) (dx D_f_hasRoom 35 rfl) (by decide) (fun c => ?_) (fun c => ?_)
      · replace h := h.1 c
        refine q_iconst (v := 0) (dx D_f_hasRoom 38 rfl) (by decide) ?_
        exact e_iret (dx D_f_hasRoom 39 rfl) rfl (by decide) ⟨_, rfl, h⟩
      · replace h := h.2 c
        refine q_iconst (v := 1) (dx D_f_hasRoom 36 rfl) (by decide) ?_
        refine e_goto (tgt := 69) (dx D_f_hasRoom 37 rfl) (by decide) ?_
        exact e_iret (dx D_f_hasRoom 39 rfl) rfl (by decide) ⟨_, rfl, h⟩
    · replace h := h.1 c
      refine e_aload_n (dx D_f_hasRoom 14 rfl) rfl ?_
      refine e_getR (dx D_f_hasRoom 15 rfl) fl_RX1_9 rfl rfl ?_
      refine e_iload_n (dx D_f_hasRoom 16 rfl) rfl ?_
      obtain ⟨hb4, h⟩ := h
      refine e_iald (dx D_f_hasRoom 17 rfl) rfl hb4 ?_
      refine e_goto (tgt := 42) (dx D_f_hasRoom 18 rfl) (by decide) ?_
      refine q_istore_n (L' := [some (.ref 16), some (.int x1), some (.int x2), some (.int (g 17 (x1).toNatClampNeg))]) (dx D_f_hasRoom 24 rfl) (by decide) rfl ?_
      refine e_iload_n (dx D_f_hasRoom 25 rfl) rfl ?_
      refine e_aload_n (dx D_f_hasRoom 26 rfl) rfl ?_
      refine e_getR (dx D_f_hasRoom 27 rfl) fl_RX1_31 rfl rfl ?_
      refine e_getI (dx D_f_hasRoom 28 rfl) fl_RX1_76 rfl rfl ?_
      refine e_aload_n (dx D_f_hasRoom 29 rfl) rfl ?_
      refine e_getR (dx D_f_hasRoom 30 rfl) fl_RX1_21 rfl rfl ?_
      refine e_getR (dx D_f_hasRoom 31 rfl) fl_RX1_79 rfl rfl ?_
      refine e_iload_n (dx D_f_hasRoom 32 rfl) rfl ?_
      obtain ⟨hb5, h⟩ := h
      refine e_iald (dx D_f_hasRoom 33 rfl) rfl hb5 ?_
      refine e_isub (dx D_f_hasRoom 34 rfl) ?_
      refine e_icmp_ge (tgt := 68) (dx D_f_hasRoom 35 rfl) (by decide) (fun c => ?_) (fun c => ?_)
      · replace h := h.1 c
        refine q_iconst (v := 0) (dx D_f_hasRoom 38 rfl) (by decide) ?_
        exact e_iret (dx D_f_hasRoom 39 rfl) rfl (by decide) ⟨_, rfl, h⟩
      · replace h := h.2 c
        refine q_iconst (v := 1) (dx D_f_hasRoom 36 rfl) (by decide) ?_
        refine e_goto (tgt := 69) (dx D_f_hasRoom 37 rfl) (by decide) ?_
        exact e_iret (dx D_f_hasRoom 39 rfl) rfl (by decide) ⟨_, rfl, h⟩
  · replace h := h.1 (bP_n c)
    refine q_iconst (v := 0) (dx D_f_hasRoom 5 rfl) (by decide) ?_
    exact e_iret (dx D_f_hasRoom 6 rfl) rfl (by decide) ⟨_, rfl, h⟩
abbrev Cf_seekRoom (x1 : Int32) (x2 : Int32) (g : Sg) (Q : Int32 → Sg → Prop) : Prop := Ci Mf_seekRoom [.ref 16, .int x1, .int x2] g Q
abbrev Hf_seekRoom_26 (x2 : Int32) (x3 : Int32) (x4 : Int32) (x5 : Int32) (g : Sg) (Q : Int32 → Sg → Prop) : Prop := Hi Mf_seekRoom 26 [some (.ref 16), none, some (.int x2), some (.int x3), some (.int x4), some (.int x5), none, none, none] [] g Q
abbrev Hf_seekRoom_60 (x2 : Int32) (x3 : Int32) (x4 : Int32) (x5 : Int32) (x6 : Int32) (x7 : Int32) (g : Sg) (Q : Int32 → Sg → Prop) : Prop := Hi Mf_seekRoom 60 [some (.ref 16), none, some (.int x2), some (.int x3), some (.int x4), some (.int x5), some (.int x6), some (.int x7), none] [] g Q
set_option maxRecDepth 20000 in
theorem Vf_seekRoom {x1 : Int32} {x2 : Int32} {g : Sg} {Q : Int32 → Sg → Prop} (h : Ck_fill 18 (-1) g (fun g1 => Hf_seekRoom_26 x2 (sb x1) 1 0 (sgU g1 19 0 x1) Q)) : Cf_seekRoom x1 x2 g Q := by
  refine Cl.of 6 pl_X1 rfl ?_
  refine e_aload_n (dx D_f_seekRoom 0 rfl) rfl ?_
  refine e_getR (dx D_f_seekRoom 1 rfl) fl_RX1_15 rfl rfl ?_
  refine q_iconst (v := (-1)) (dx D_f_seekRoom 2 rfl) (by decide) ?_
  refine e_callSv (rest := []) [.ref 18, .int (-1)] (dx D_f_seekRoom 3 rfl) ln_f_seekRoom_32 rfl rfl (Nat.le_of_ble_eq_true rfl) h (fun g1 h => ?_)
  refine e_iload_n (dx D_f_seekRoom 4 rfl) rfl ?_
  refine e_callSNi (Q1 := fun r g' => (sb x1) = r ∧ g1 = g') (rest := []) [.int x1] (dx D_f_seekRoom 5 rfl) ln_f_seekRoom_46 rfl rfl (Nat.le_of_ble_eq_true rfl) (Ix_bit  ⟨rfl, rfl⟩) (fun r g' hh => ?_)
  obtain ⟨rfl, rfl⟩ := hh
  refine q_istore_n (L' := [some (.ref 16), some (.int x1), some (.int x2), some (.int (sb x1)), none, none, none, none, none]) (dx D_f_seekRoom 6 rfl) (by decide) rfl ?_
  refine q_iconst (v := 1) (dx D_f_seekRoom 7 rfl) (by decide) ?_
  refine q_istore (L' := [some (.ref 16), some (.int x1), some (.int x2), some (.int (sb x1)), some (.int 1), none, none, none, none]) (dx D_f_seekRoom 8 rfl) (by decide) rfl ?_
  refine e_aload_n (dx D_f_seekRoom 9 rfl) rfl ?_
  refine e_getR (dx D_f_seekRoom 10 rfl) fl_RX1_18 rfl rfl ?_
  refine q_iconst (v := 0) (dx D_f_seekRoom 11 rfl) (by decide) ?_
  refine e_iload_n (dx D_f_seekRoom 12 rfl) rfl ?_
  refine e_iast (dx D_f_seekRoom 13 rfl) rfl (by unfold vp_in; decide) ?_
  refine q_iconst (v := 0) (dx D_f_seekRoom 14 rfl) (by decide) ?_
  refine q_istore (L' := [some (.ref 16), some (.int x1), some (.int x2), some (.int (sb x1)), some (.int 1), some (.int 0), none, none, none]) (dx D_f_seekRoom 15 rfl) (by decide) rfl ?_
  exact Wp.mask [true, false, true, true, true, true, false, false, false] h
set_option maxRecDepth 20000 in
theorem Vf_seekRoom_26 {x2 : Int32} {x3 : Int32} {x4 : Int32} {x5 : Int32} {g : Sg} {Q : Int32 → Sg → Prop} (h : ((8 ≤ x5 → bP (tbb x3 x2 = true) &&& 1 = bP (tbb x3 x2 = true) ∧ Q (bP (tbb x3 x2 = true)) g) ∧ (¬ 8 ≤ x5 → ((x4 ≤ x5 → bP (tbb x3 x2 = true) &&& 1 = bP (tbb x3 x2 = true) ∧ Q (bP (tbb x3 x2 = true)) g) ∧ (¬ x4 ≤ x5 → (((tbb x3 x2 = true) → bP (tbb x3 x2 = true) &&& 1 = bP (tbb x3 x2 = true) ∧ Q (bP (tbb x3 x2 = true)) g) ∧ (¬ (tbb x3 x2 = true) → vp_in x5 8 ∧ Hf_seekRoom_60 x2 x3 x4 x5 (g 19 (x5).toNatClampNeg) 0 g Q))))))) : Hf_seekRoom_26 x2 x3 x4 x5 g Q := by
  refine e_iload (dx D_f_seekRoom 16 rfl) rfl ?_
  refine q_bipush (v := 8) (dx D_f_seekRoom 17 rfl) (by decide) ?_
  refine e_icmp_ge (tgt := 170) (dx D_f_seekRoom 18 rfl) (by decide) (fun c => ?_) (fun c => ?_)
  · replace h := h.1 c
    refine e_iload_n (dx D_f_seekRoom 83 rfl) rfl ?_
    refine e_iload_n (dx D_f_seekRoom 84 rfl) rfl ?_
    refine e_callSNi (Q1 := fun r g' => bP (tbb x3 x2 = true) = r ∧ g = g') (rest := []) [.int x3, .int x2] (dx D_f_seekRoom 85 rfl) ln_f_seekRoom_50 rfl rfl (Nat.le_of_ble_eq_true rfl) (Ix_hasBit  ⟨rfl, rfl⟩) (fun r g' hh => ?_)
    obtain ⟨rfl, rfl⟩ := hh
    obtain ⟨hb1, h⟩ := h
    exact e_iret (dx D_f_seekRoom 86 rfl) rfl (nb1 hb1) ⟨_, rfl, h⟩
  · replace h := h.2 c
    refine e_iload (dx D_f_seekRoom 19 rfl) rfl ?_
    refine e_iload (dx D_f_seekRoom 20 rfl) rfl ?_
    refine e_icmp_ge (tgt := 170) (dx D_f_seekRoom 21 rfl) (by decide) (fun c => ?_) (fun c => ?_)
    · replace h := h.1 c
      refine e_iload_n (dx D_f_seekRoom 83 rfl) rfl ?_
      refine e_iload_n (dx D_f_seekRoom 84 rfl) rfl ?_
      refine e_callSNi (Q1 := fun r g' => bP (tbb x3 x2 = true) = r ∧ g = g') (rest := []) [.int x3, .int x2] (dx D_f_seekRoom 85 rfl) ln_f_seekRoom_50 rfl rfl (Nat.le_of_ble_eq_true rfl) (Ix_hasBit  ⟨rfl, rfl⟩) (fun r g' hh => ?_)
      obtain ⟨rfl, rfl⟩ := hh
      obtain ⟨hb2, h⟩ := h
      exact e_iret (dx D_f_seekRoom 86 rfl) rfl (nb1 hb2) ⟨_, rfl, h⟩
    · replace h := h.2 c
      refine e_iload_n (dx D_f_seekRoom 22 rfl) rfl ?_
      refine e_iload_n (dx D_f_seekRoom 23 rfl) rfl ?_
      refine e_callSNi (Q1 := fun r g' => bP (tbb x3 x2 = true) = r ∧ g = g') (rest := []) [.int x3, .int x2] (dx D_f_seekRoom 24 rfl) ln_f_seekRoom_50 rfl rfl (Nat.le_of_ble_eq_true rfl) (Ix_hasBit  ⟨rfl, rfl⟩) (fun r g' hh => ?_)
      obtain ⟨rfl, rfl⟩ := hh
      refine e_if_ne (tgt := 170) (dx D_f_seekRoom 25 rfl) (by decide) (fun c => ?_) (fun c => ?_)
      · replace h := h.1 (bP_n c)
        refine e_iload_n (dx D_f_seekRoom 83 rfl) rfl ?_
        refine e_iload_n (dx D_f_seekRoom 84 rfl) rfl ?_
        refine e_callSNi (Q1 := fun r g' => bP (tbb x3 x2 = true) = r ∧ g = g') (rest := []) [.int x3, .int x2] (dx D_f_seekRoom 85 rfl) ln_f_seekRoom_50 rfl rfl (Nat.le_of_ble_eq_true rfl) (Ix_hasBit  ⟨rfl, rfl⟩) (fun r g' hh => ?_)
        obtain ⟨rfl, rfl⟩ := hh
        obtain ⟨hb3, h⟩ := h
        exact e_iret (dx D_f_seekRoom 86 rfl) rfl (nb1 hb3) ⟨_, rfl, h⟩
      · replace h := h.2 (bP_z c)
        refine e_aload_n (dx D_f_seekRoom 26 rfl) rfl ?_
        refine e_getR (dx D_f_seekRoom 27 rfl) fl_RX1_18 rfl rfl ?_
        refine e_iload (dx D_f_seekRoom 28 rfl) rfl ?_
        obtain ⟨hb4, h⟩ := h
        refine e_iald (dx D_f_seekRoom 29 rfl) rfl hb4 ?_
        refine q_istore (L' := [some (.ref 16), none, some (.int x2), some (.int x3), some (.int x4), some (.int x5), some (.int (g 19 (x5).toNatClampNeg)), none, none]) (dx D_f_seekRoom 30 rfl) (by decide) rfl ?_
        refine q_iconst (v := 0) (dx D_f_seekRoom 31 rfl) (by decide) ?_
        refine q_istore (L' := [some (.ref 16), none, some (.int x2), some (.int x3), some (.int x4), some (.int x5), some (.int (g 19 (x5).toNatClampNeg)), some (.int 0), none]) (dx D_f_seekRoom 32 rfl) (by decide) rfl ?_
        exact h
set_option maxRecDepth 20000 in
theorem Vf_seekRoom_60 {x2 : Int32} {x3 : Int32} {x4 : Int32} {x5 : Int32} {x6 : Int32} {x7 : Int32} {g : Sg} {Q : Int32 → Sg → Prop} (h : (((g 1 8) ≤ x7 → Hf_seekRoom_26 x2 x3 x4 (x5 + 1) g Q) ∧ (¬ (g 1 8) ≤ x7 → vp_in x7 16 ∧ (((g 3 (x7).toNatClampNeg = x6 ∨ g 4 (x7).toNatClampNeg = x6) → Cf_hasRoom x7 x6 g (fun r3 g2 => ((r3 = 0 → Hf_seekRoom_60 x2 x3 x4 x5 x6 (x7 + 1) g2 Q) ∧ (¬ r3 = 0 → vp_in x7 16 ∧ (((tbb x3 (if g2 3 (x7).toNatClampNeg = x6 then g2 4 (x7).toNatClampNeg else g2 3 (x7).toNatClampNeg) = true) → Hf_seekRoom_60 x2 x3 x4 x5 x6 (x7 + 1) g2 Q) ∧ (¬ (tbb x3 (if g2 3 (x7).toNatClampNeg = x6 then g2 4 (x7).toNatClampNeg else g2 3 (x7).toNatClampNeg) = true) → ((8 ≤ x4 → Hf_seekRoom_60 x2 x3 x4 x5 x6 (x7 + 1) g2 Q) ∧ (¬ 8 ≤ x4 → vp_in (if g2 3 (x7).toNatClampNeg = x6 then g2 4 (x7).toNatClampNeg else g2 3 (x7).toNatClampNeg) 8 ∧ vp_in x4 8 ∧ Hf_seekRoom_60 x2 (x3 ||| (sb (if g2 3 (x7).toNatClampNeg = x6 then g2 4 (x7).toNatClampNeg else g2 3 (x7).toNatClampNeg))) (x4 + 1) x5 x6 (x7 + 1) (sgU (sgU g2 18 (if g2 3 (x7).toNatClampNeg = x6 then g2 4 (x7).toNatClampNeg else g2 3 (x7).toNatClampNeg).toNatClampNeg x7) 19 (x4).toNatClampNeg (if g2 3 (x7).toNatClampNeg = x6 then g2 4 (x7).toNatClampNeg else g2 3 (x7).toNatClampNeg)) Q)))))))) ∧ (¬ (g 3 (x7).toNatClampNeg = x6 ∨ g 4 (x7).toNatClampNeg = x6) → Hf_seekRoom_60 x2 x3 x4 x5 x6 (x7 + 1) g Q))))) : Hf_seekRoom_60 x2 x3 x4 x5 x6 x7 g Q := by
  refine e_iload (dx D_f_seekRoom 33 rfl) rfl ?_
  refine e_aload_n (dx D_f_seekRoom 34 rfl) rfl ?_
  refine e_getR (dx D_f_seekRoom 35 rfl) fl_RX1_31 rfl rfl ?_
  refine e_getI (dx D_f_seekRoom 36 rfl) fl_RX1_53 rfl rfl ?_
  refine e_icmp_ge (tgt := 164) (dx D_f_seekRoom 37 rfl) (by decide) (fun c => ?_) (fun c => ?_)
  · replace h := h.1 c
    refine q_iinc (d := 1) (L' := [some (.ref 16), none, some (.int x2), some (.int x3), some (.int x4), some (.int (x5 + 1)), some (.int x6), some (.int x7), none]) (dx D_f_seekRoom 81 rfl) rfl (by decide) (by decide) rfl ?_
    refine e_goto (tgt := 26) (dx D_f_seekRoom 82 rfl) (by decide) ?_
    exact Wp.mask [true, false, true, true, true, true, false, false, false] h
  · replace h := h.2 c
    refine e_aload_n (dx D_f_seekRoom 38 rfl) rfl ?_
    refine e_getR (dx D_f_seekRoom 39 rfl) fl_RX1_31 rfl rfl ?_
    refine e_iload (dx D_f_seekRoom 40 rfl) rfl ?_
    refine e_iload (dx D_f_seekRoom 41 rfl) rfl ?_
    obtain ⟨hb1, h⟩ := h
    refine e_callVi (Q1 := fun r g' => bP (g 3 (x7).toNatClampNeg = x6 ∨ g 4 (x7).toNatClampNeg = x6) = r ∧ g = g') (rest := []) [.int x7, .int x6] (dx D_f_seekRoom 42 rfl) ln_f_seekRoom_59 rfl rfl rfl (Nat.le_of_ble_eq_true rfl) (Ip_touches hb1 ⟨rfl, rfl⟩) (fun r g' hh => ?_)
    obtain ⟨rfl, rfl⟩ := hh
    refine e_if_eq (tgt := 158) (dx D_f_seekRoom 43 rfl) (by decide) (fun c => ?_) (fun c => ?_)
    · replace h := h.2 (bP_z c)
      refine q_iinc (d := 1) (L' := [some (.ref 16), none, some (.int x2), some (.int x3), some (.int x4), some (.int x5), some (.int x6), some (.int (x7 + 1)), none]) (dx D_f_seekRoom 79 rfl) rfl (by decide) (by decide) rfl ?_
      refine e_goto (tgt := 60) (dx D_f_seekRoom 80 rfl) (by decide) ?_
      exact h
    · replace h := h.1 (bP_n c)
      refine e_aload_n (dx D_f_seekRoom 44 rfl) rfl ?_
      refine e_iload (dx D_f_seekRoom 45 rfl) rfl ?_
      refine e_iload (dx D_f_seekRoom 46 rfl) rfl ?_
      refine e_callVi (rest := []) [.int x7, .int x6] (dx D_f_seekRoom 47 rfl) ln_f_seekRoom_62 rfl rfl rfl (Nat.le_of_ble_eq_true rfl) h (fun r3 g2 h => ?_)
      refine e_if_ne (tgt := 100) (dx D_f_seekRoom 48 rfl) (by decide) (fun c => ?_) (fun c => ?_)
      · replace h := h.2 c
        refine e_aload_n (dx D_f_seekRoom 50 rfl) rfl ?_
        refine e_getR (dx D_f_seekRoom 51 rfl) fl_RX1_31 rfl rfl ?_
        refine e_iload (dx D_f_seekRoom 52 rfl) rfl ?_
        refine e_iload (dx D_f_seekRoom 53 rfl) rfl ?_
        obtain ⟨hb4, h⟩ := h
        refine e_callVi (Q1 := fun r g' => (if g2 3 (x7).toNatClampNeg = x6 then g2 4 (x7).toNatClampNeg else g2 3 (x7).toNatClampNeg) = r ∧ g2 = g') (rest := []) [.int x7, .int x6] (dx D_f_seekRoom 54 rfl) ln_f_seekRoom_65 rfl rfl rfl (Nat.le_of_ble_eq_true rfl) (Ip_opposite hb4 ⟨rfl, rfl⟩) (fun r g' hh => ?_)
        obtain ⟨rfl, rfl⟩ := hh
        refine q_istore (L' := [some (.ref 16), none, some (.int x2), some (.int x3), some (.int x4), some (.int x5), some (.int x6), some (.int x7), some (.int (if g2 3 (x7).toNatClampNeg = x6 then g2 4 (x7).toNatClampNeg else g2 3 (x7).toNatClampNeg))]) (dx D_f_seekRoom 55 rfl) (by decide) rfl ?_
        refine e_iload_n (dx D_f_seekRoom 56 rfl) rfl ?_
        refine e_iload (dx D_f_seekRoom 57 rfl) rfl ?_
        refine e_callSNi (Q1 := fun r g' => bP (tbb x3 (if g2 3 (x7).toNatClampNeg = x6 then g2 4 (x7).toNatClampNeg else g2 3 (x7).toNatClampNeg) = true) = r ∧ g2 = g') (rest := []) [.int x3, .int (if g2 3 (x7).toNatClampNeg = x6 then g2 4 (x7).toNatClampNeg else g2 3 (x7).toNatClampNeg)] (dx D_f_seekRoom 58 rfl) ln_f_seekRoom_50 rfl rfl (Nat.le_of_ble_eq_true rfl) (Ix_hasBit  ⟨rfl, rfl⟩) (fun r g' hh => ?_)
        obtain ⟨rfl, rfl⟩ := hh
        refine e_if_ne (tgt := 158) (dx D_f_seekRoom 59 rfl) (by decide) (fun c => ?_) (fun c => ?_)
        · replace h := h.1 (bP_n c)
          refine q_iinc (d := 1) (L' := [some (.ref 16), none, some (.int x2), some (.int x3), some (.int x4), some (.int x5), some (.int x6), some (.int (x7 + 1)), some (.int (if g2 3 (x7).toNatClampNeg = x6 then g2 4 (x7).toNatClampNeg else g2 3 (x7).toNatClampNeg))]) (dx D_f_seekRoom 79 rfl) rfl (by decide) (by decide) rfl ?_
          refine e_goto (tgt := 60) (dx D_f_seekRoom 80 rfl) (by decide) ?_
          exact Wp.mask [true, false, true, true, true, true, true, true, false] h
        · replace h := h.2 (bP_z c)
          refine e_iload (dx D_f_seekRoom 60 rfl) rfl ?_
          refine q_bipush (v := 8) (dx D_f_seekRoom 61 rfl) (by decide) ?_
          refine e_icmp_ge (tgt := 158) (dx D_f_seekRoom 62 rfl) (by decide) (fun c => ?_) (fun c => ?_)
          · replace h := h.1 c
            refine q_iinc (d := 1) (L' := [some (.ref 16), none, some (.int x2), some (.int x3), some (.int x4), some (.int x5), some (.int x6), some (.int (x7 + 1)), some (.int (if g2 3 (x7).toNatClampNeg = x6 then g2 4 (x7).toNatClampNeg else g2 3 (x7).toNatClampNeg))]) (dx D_f_seekRoom 79 rfl) rfl (by decide) (by decide) rfl ?_
            refine e_goto (tgt := 60) (dx D_f_seekRoom 80 rfl) (by decide) ?_
            exact Wp.mask [true, false, true, true, true, true, true, true, false] h
          · replace h := h.2 c
            refine e_iload_n (dx D_f_seekRoom 63 rfl) rfl ?_
            refine e_iload (dx D_f_seekRoom 64 rfl) rfl ?_
            refine e_callSNi (Q1 := fun r g' => (sb (if g2 3 (x7).toNatClampNeg = x6 then g2 4 (x7).toNatClampNeg else g2 3 (x7).toNatClampNeg)) = r ∧ g2 = g') (rest := [.int x3]) [.int (if g2 3 (x7).toNatClampNeg = x6 then g2 4 (x7).toNatClampNeg else g2 3 (x7).toNatClampNeg)] (dx D_f_seekRoom 65 rfl) ln_f_seekRoom_46 rfl rfl (Nat.le_of_ble_eq_true rfl) (Ix_bit  ⟨rfl, rfl⟩) (fun r g' hh => ?_)
            obtain ⟨rfl, rfl⟩ := hh
            refine e_ior (dx D_f_seekRoom 66 rfl) ?_
            refine q_istore_n (L' := [some (.ref 16), none, some (.int x2), some (.int (x3 ||| (sb (if g2 3 (x7).toNatClampNeg = x6 then g2 4 (x7).toNatClampNeg else g2 3 (x7).toNatClampNeg)))), some (.int x4), some (.int x5), some (.int x6), some (.int x7), some (.int (if g2 3 (x7).toNatClampNeg = x6 then g2 4 (x7).toNatClampNeg else g2 3 (x7).toNatClampNeg))]) (dx D_f_seekRoom 67 rfl) (by decide) rfl ?_
            refine e_aload_n (dx D_f_seekRoom 68 rfl) rfl ?_
            refine e_getR (dx D_f_seekRoom 69 rfl) fl_RX1_15 rfl rfl ?_
            refine e_iload (dx D_f_seekRoom 70 rfl) rfl ?_
            refine e_iload (dx D_f_seekRoom 71 rfl) rfl ?_
            obtain ⟨hb5, h⟩ := h
            refine e_iast (dx D_f_seekRoom 72 rfl) rfl hb5 ?_
            refine e_aload_n (dx D_f_seekRoom 73 rfl) rfl ?_
            refine e_getR (dx D_f_seekRoom 74 rfl) fl_RX1_18 rfl rfl ?_
            refine e_iload (dx D_f_seekRoom 75 rfl) rfl ?_
            refine e_iload (dx D_f_seekRoom 76 rfl) rfl ?_
            obtain ⟨hb6, h⟩ := h
            refine e_iast (dx D_f_seekRoom 77 rfl) rfl hb6 ?_
            refine q_iinc (d := 1) (L' := [some (.ref 16), none, some (.int x2), some (.int (x3 ||| (sb (if g2 3 (x7).toNatClampNeg = x6 then g2 4 (x7).toNatClampNeg else g2 3 (x7).toNatClampNeg)))), some (.int (x4 + 1)), some (.int x5), some (.int x6), some (.int x7), some (.int (if g2 3 (x7).toNatClampNeg = x6 then g2 4 (x7).toNatClampNeg else g2 3 (x7).toNatClampNeg))]) (dx D_f_seekRoom 78 rfl) rfl (by decide) (by decide) rfl ?_
            refine q_iinc (d := 1) (L' := [some (.ref 16), none, some (.int x2), some (.int (x3 ||| (sb (if g2 3 (x7).toNatClampNeg = x6 then g2 4 (x7).toNatClampNeg else g2 3 (x7).toNatClampNeg)))), some (.int (x4 + 1)), some (.int x5), some (.int x6), some (.int (x7 + 1)), some (.int (if g2 3 (x7).toNatClampNeg = x6 then g2 4 (x7).toNatClampNeg else g2 3 (x7).toNatClampNeg))]) (dx D_f_seekRoom 79 rfl) rfl (by decide) (by decide) rfl ?_
            refine e_goto (tgt := 60) (dx D_f_seekRoom 80 rfl) (by decide) ?_
            exact Wp.mask [true, false, true, true, true, true, true, true, false] h
      · replace h := h.1 c
        refine e_goto (tgt := 158) (dx D_f_seekRoom 49 rfl) (by decide) ?_
        refine q_iinc (d := 1) (L' := [some (.ref 16), none, some (.int x2), some (.int x3), some (.int x4), some (.int x5), some (.int x6), some (.int (x7 + 1)), none]) (dx D_f_seekRoom 79 rfl) rfl (by decide) (by decide) rfl ?_
        refine e_goto (tgt := 60) (dx D_f_seekRoom 80 rfl) (by decide) ?_
        exact h
abbrev Cf_push (x1 : Int32) (x2 : Int32) (g : Sg) (Q : Sg → Prop) : Prop := Cv Mf_push [.ref 16, .int x1, .int x2] g Q
abbrev Hf_push_5 (x1 : Int32) (x3 : Int32) (x4 : Int32) (g : Sg) (Q : Sg → Prop) : Prop := Hv Mf_push 5 [some (.ref 16), some (.int x1), none, some (.int x3), some (.int x4), none] [] g Q
set_option maxRecDepth 20000 in
theorem Vf_push {x1 : Int32} {x2 : Int32} {g : Sg} {Q : Sg → Prop} (h : Hf_push_5 x1 x2 0 g Q) : Cf_push x1 x2 g Q := by
  refine Cl.of 3 pl_X1 rfl ?_
  refine e_iload_n (dx D_f_push 0 rfl) rfl ?_
  refine q_istore_n (L' := [some (.ref 16), some (.int x1), some (.int x2), some (.int x2), none, none]) (dx D_f_push 1 rfl) (by decide) rfl ?_
  refine q_iconst (v := 0) (dx D_f_push 2 rfl) (by decide) ?_
  refine q_istore (L' := [some (.ref 16), some (.int x1), some (.int x2), some (.int x2), some (.int 0), none]) (dx D_f_push 3 rfl) (by decide) rfl ?_
  exact Wp.mask [true, true, false, true, true, false] h
set_option maxRecDepth 20000 in
theorem Vf_push_5 {x1 : Int32} {x3 : Int32} {x4 : Int32} {g : Sg} {Q : Sg → Prop} (h : ((8 ≤ x4 → Q g) ∧ (¬ 8 ≤ x4 → ((x3 = x1 → Q g) ∧ (¬ x3 = x1 → vp_in x3 8 ∧ (((g 18 (x3).toNatClampNeg) = (-1) → Q g) ∧ (¬ (g 18 (x3).toNatClampNeg) = (-1) → vp_in (g 18 (x3).toNatClampNeg) 16 ∧ vp_in (g 18 (x3).toNatClampNeg) 16 ∧ (((g 4 (g 18 (x3).toNatClampNeg).toNatClampNeg) = x3 → vp_in (g 18 (x3).toNatClampNeg) 16 ∧ vp_in (g 18 (x3).toNatClampNeg) 16 ∧ Hf_push_5 x1 (if g 3 (g 18 (x3).toNatClampNeg).toNatClampNeg = x3 then g 4 (g 18 (x3).toNatClampNeg).toNatClampNeg else g 3 (g 18 (x3).toNatClampNeg).toNatClampNeg) (x4 + 1) (sgU g 17 (g 18 (x3).toNatClampNeg).toNatClampNeg ((g 17 (g 18 (x3).toNatClampNeg).toNatClampNeg) + 1)) Q) ∧ (¬ (g 4 (g 18 (x3).toNatClampNeg).toNatClampNeg) = x3 → vp_in (g 18 (x3).toNatClampNeg) 16 ∧ vp_in (g 18 (x3).toNatClampNeg) 16 ∧ Hf_push_5 x1 (if g 3 (g 18 (x3).toNatClampNeg).toNatClampNeg = x3 then g 4 (g 18 (x3).toNatClampNeg).toNatClampNeg else g 3 (g 18 (x3).toNatClampNeg).toNatClampNeg) (x4 + 1) (sgU g 17 (g 18 (x3).toNatClampNeg).toNatClampNeg ((g 17 (g 18 (x3).toNatClampNeg).toNatClampNeg) + (-1))) Q))))))))) : Hf_push_5 x1 x3 x4 g Q := by
  refine e_iload (dx D_f_push 4 rfl) rfl ?_
  refine q_bipush (v := 8) (dx D_f_push 5 rfl) (by decide) ?_
  refine e_icmp_ge (tgt := 78) (dx D_f_push 6 rfl) (by decide) (fun c => ?_) (fun c => ?_)
  · replace h := h.1 c
    exact e_vret (dx D_f_push 44 rfl) rfl ⟨rfl, h⟩
  · replace h := h.2 c
    refine e_iload_n (dx D_f_push 7 rfl) rfl ?_
    refine e_iload_n (dx D_f_push 8 rfl) rfl ?_
    refine e_icmp_eq (tgt := 78) (dx D_f_push 9 rfl) (by decide) (fun c => ?_) (fun c => ?_)
    · replace h := h.1 c
      exact e_vret (dx D_f_push 44 rfl) rfl ⟨rfl, h⟩
    · replace h := h.2 c
      refine e_aload_n (dx D_f_push 10 rfl) rfl ?_
      refine e_getR (dx D_f_push 11 rfl) fl_RX1_15 rfl rfl ?_
      refine e_iload_n (dx D_f_push 12 rfl) rfl ?_
      obtain ⟨hb1, h⟩ := h
      refine e_iald (dx D_f_push 13 rfl) rfl hb1 ?_
      refine q_istore (L' := [some (.ref 16), some (.int x1), none, some (.int x3), some (.int x4), some (.int (g 18 (x3).toNatClampNeg))]) (dx D_f_push 14 rfl) (by decide) rfl ?_
      refine e_iload (dx D_f_push 15 rfl) rfl ?_
      refine q_iconst (v := (-1)) (dx D_f_push 16 rfl) (by decide) ?_
      refine e_icmp_ne (tgt := 32) (dx D_f_push 17 rfl) (by decide) (fun c => ?_) (fun c => ?_)
      · replace h := h.2 c
        refine e_aload_n (dx D_f_push 19 rfl) rfl ?_
        refine e_getR (dx D_f_push 20 rfl) fl_RX1_9 rfl rfl ?_
        refine e_iload (dx D_f_push 21 rfl) rfl ?_
        refine e_dup2 (dx D_f_push 22 rfl) rfl rfl ?_
        obtain ⟨hb2, h⟩ := h
        refine e_iald (dx D_f_push 23 rfl) rfl hb2 ?_
        refine e_aload_n (dx D_f_push 24 rfl) rfl ?_
        refine e_getR (dx D_f_push 25 rfl) fl_RX1_31 rfl rfl ?_
        refine e_getR (dx D_f_push 26 rfl) fl_RX1_82 rfl rfl ?_
        refine e_iload (dx D_f_push 27 rfl) rfl ?_
        obtain ⟨hb3, h⟩ := h
        refine e_iald (dx D_f_push 28 rfl) rfl hb3 ?_
        refine e_iload_n (dx D_f_push 29 rfl) rfl ?_
        refine e_icmp_ne (tgt := 58) (dx D_f_push 30 rfl) (by decide) (fun c => ?_) (fun c => ?_)
        · replace h := h.2 c
          refine q_iconst (v := (-1)) (dx D_f_push 33 rfl) (by decide) ?_
          refine e_iadd (dx D_f_push 34 rfl) ?_
          obtain ⟨hb4, h⟩ := h
          refine e_iast (dx D_f_push 35 rfl) rfl hb4 ?_
          refine e_aload_n (dx D_f_push 36 rfl) rfl ?_
          refine e_getR (dx D_f_push 37 rfl) fl_RX1_31 rfl rfl ?_
          refine e_iload (dx D_f_push 38 rfl) rfl ?_
          refine e_iload_n (dx D_f_push 39 rfl) rfl ?_
          obtain ⟨hb5, h⟩ := h
          refine e_callVi (Q1 := fun r g' => (if g 3 (g 18 (x3).toNatClampNeg).toNatClampNeg = x3 then g 4 (g 18 (x3).toNatClampNeg).toNatClampNeg else g 3 (g 18 (x3).toNatClampNeg).toNatClampNeg) = r ∧ (sgU g 17 (g 18 (x3).toNatClampNeg).toNatClampNeg ((g 17 (g 18 (x3).toNatClampNeg).toNatClampNeg) + (-1))) = g') (rest := []) [.int (g 18 (x3).toNatClampNeg), .int x3] (dx D_f_push 40 rfl) ln_f_push_65 rfl rfl rfl (Nat.le_of_ble_eq_true rfl) (Ip_opposite hb5 ⟨rfl, rfl⟩) (fun r g' hh => ?_)
          obtain ⟨rfl, rfl⟩ := hh
          refine q_istore_n (L' := [some (.ref 16), some (.int x1), none, some (.int (if g 3 (g 18 (x3).toNatClampNeg).toNatClampNeg = x3 then g 4 (g 18 (x3).toNatClampNeg).toNatClampNeg else g 3 (g 18 (x3).toNatClampNeg).toNatClampNeg)), some (.int x4), some (.int (g 18 (x3).toNatClampNeg))]) (dx D_f_push 41 rfl) (by decide) rfl ?_
          refine q_iinc (d := 1) (L' := [some (.ref 16), some (.int x1), none, some (.int (if g 3 (g 18 (x3).toNatClampNeg).toNatClampNeg = x3 then g 4 (g 18 (x3).toNatClampNeg).toNatClampNeg else g 3 (g 18 (x3).toNatClampNeg).toNatClampNeg)), some (.int (x4 + 1)), some (.int (g 18 (x3).toNatClampNeg))]) (dx D_f_push 42 rfl) rfl (by decide) (by decide) rfl ?_
          refine e_goto (tgt := 5) (dx D_f_push 43 rfl) (by decide) ?_
          exact Wp.mask [true, true, false, true, true, false] h
        · replace h := h.1 c
          refine q_iconst (v := 1) (dx D_f_push 31 rfl) (by decide) ?_
          refine e_goto (tgt := 59) (dx D_f_push 32 rfl) (by decide) ?_
          refine e_iadd (dx D_f_push 34 rfl) ?_
          obtain ⟨hb6, h⟩ := h
          refine e_iast (dx D_f_push 35 rfl) rfl hb6 ?_
          refine e_aload_n (dx D_f_push 36 rfl) rfl ?_
          refine e_getR (dx D_f_push 37 rfl) fl_RX1_31 rfl rfl ?_
          refine e_iload (dx D_f_push 38 rfl) rfl ?_
          refine e_iload_n (dx D_f_push 39 rfl) rfl ?_
          obtain ⟨hb7, h⟩ := h
          refine e_callVi (Q1 := fun r g' => (if g 3 (g 18 (x3).toNatClampNeg).toNatClampNeg = x3 then g 4 (g 18 (x3).toNatClampNeg).toNatClampNeg else g 3 (g 18 (x3).toNatClampNeg).toNatClampNeg) = r ∧ (sgU g 17 (g 18 (x3).toNatClampNeg).toNatClampNeg ((g 17 (g 18 (x3).toNatClampNeg).toNatClampNeg) + 1)) = g') (rest := []) [.int (g 18 (x3).toNatClampNeg), .int x3] (dx D_f_push 40 rfl) ln_f_push_65 rfl rfl rfl (Nat.le_of_ble_eq_true rfl) (Ip_opposite hb7 ⟨rfl, rfl⟩) (fun r g' hh => ?_)
          obtain ⟨rfl, rfl⟩ := hh
          refine q_istore_n (L' := [some (.ref 16), some (.int x1), none, some (.int (if g 3 (g 18 (x3).toNatClampNeg).toNatClampNeg = x3 then g 4 (g 18 (x3).toNatClampNeg).toNatClampNeg else g 3 (g 18 (x3).toNatClampNeg).toNatClampNeg)), some (.int x4), some (.int (g 18 (x3).toNatClampNeg))]) (dx D_f_push 41 rfl) (by decide) rfl ?_
          refine q_iinc (d := 1) (L' := [some (.ref 16), some (.int x1), none, some (.int (if g 3 (g 18 (x3).toNatClampNeg).toNatClampNeg = x3 then g 4 (g 18 (x3).toNatClampNeg).toNatClampNeg else g 3 (g 18 (x3).toNatClampNeg).toNatClampNeg)), some (.int (x4 + 1)), some (.int (g 18 (x3).toNatClampNeg))]) (dx D_f_push 42 rfl) rfl (by decide) (by decide) rfl ?_
          refine e_goto (tgt := 5) (dx D_f_push 43 rfl) (by decide) ?_
          exact Wp.mask [true, true, false, true, true, false] h
      · replace h := h.1 c
        exact e_vret (dx D_f_push 18 rfl) rfl ⟨rfl, h⟩
abbrev Cf_greatest (x1 : Int32) (x2 : Int32) (g : Sg) (Q : Int32 → Sg → Prop) : Prop := Ci Mf_greatest [.ref 16, .int x1, .int x2] g Q
abbrev Hf_greatest_10 (x1 : Int32) (x2 : Int32) (x3 : Int32) (g : Sg) (Q : Int32 → Sg → Prop) : Prop := Hi Mf_greatest 10 [some (.ref 16), some (.int x1), some (.int x2), some (.int x3)] [] g Q
set_option maxRecDepth 20000 in
theorem Vf_greatest {x1 : Int32} {x2 : Int32} {g : Sg} {Q : Int32 → Sg → Prop} (h : Ck_fill 17 0 g (fun g1 => Hf_greatest_10 x1 x2 0 g1 Q)) : Cf_greatest x1 x2 g Q := by
  refine Cl.of 1 pl_X1 rfl ?_
  refine e_aload_n (dx D_f_greatest 0 rfl) rfl ?_
  refine e_getR (dx D_f_greatest 1 rfl) fl_RX1_9 rfl rfl ?_
  refine q_iconst (v := 0) (dx D_f_greatest 2 rfl) (by decide) ?_
  refine e_callSv (rest := []) [.ref 17, .int 0] (dx D_f_greatest 3 rfl) ln_f_greatest_32 rfl rfl (Nat.le_of_ble_eq_true rfl) h (fun g1 h => ?_)
  refine q_iconst (v := 0) (dx D_f_greatest 4 rfl) (by decide) ?_
  refine q_istore_n (L' := [some (.ref 16), some (.int x1), some (.int x2), some (.int 0)]) (dx D_f_greatest 5 rfl) (by decide) rfl ?_
  exact h
set_option maxRecDepth 20000 in
theorem Vf_greatest_10 {x1 : Int32} {x2 : Int32} {x3 : Int32} {g : Sg} {Q : Int32 → Sg → Prop} (h : ((64 ≤ x3 → Q x3 g) ∧ (¬ 64 ≤ x3 → Cf_seekRoom x1 x2 g (fun r2 g1 => ((r2 = 0 → Q x3 g1) ∧ (¬ r2 = 0 → Cf_push x1 x2 g1 (fun g3 => Hf_greatest_10 x1 x2 (x3 + 1) g3 Q))))))) : Hf_greatest_10 x1 x2 x3 g Q := by
  refine e_iload_n (dx D_f_greatest 6 rfl) rfl ?_
  refine q_bipush (v := 64) (dx D_f_greatest 7 rfl) (by decide) ?_
  refine e_icmp_ge (tgt := 37) (dx D_f_greatest 8 rfl) (by decide) (fun c => ?_) (fun c => ?_)
  · replace h := h.1 c
    refine e_iload_n (dx D_f_greatest 20 rfl) rfl ?_
    exact e_iret (dx D_f_greatest 21 rfl) rfl rfl ⟨_, rfl, h⟩
  · replace h := h.2 c
    refine e_aload_n (dx D_f_greatest 9 rfl) rfl ?_
    refine e_iload_n (dx D_f_greatest 10 rfl) rfl ?_
    refine e_iload_n (dx D_f_greatest 11 rfl) rfl ?_
    refine e_callVi (rest := []) [.int x1, .int x2] (dx D_f_greatest 12 rfl) ln_f_greatest_38 rfl rfl rfl (Nat.le_of_ble_eq_true rfl) h (fun r2 g1 h => ?_)
    refine e_if_eq (tgt := 37) (dx D_f_greatest 13 rfl) (by decide) (fun c => ?_) (fun c => ?_)
    · replace h := h.1 c
      refine e_iload_n (dx D_f_greatest 20 rfl) rfl ?_
      exact e_iret (dx D_f_greatest 21 rfl) rfl rfl ⟨_, rfl, h⟩
    · replace h := h.2 c
      refine e_aload_n (dx D_f_greatest 14 rfl) rfl ?_
      refine e_iload_n (dx D_f_greatest 15 rfl) rfl ?_
      refine e_iload_n (dx D_f_greatest 16 rfl) rfl ?_
      refine e_callVv (rest := []) [.int x1, .int x2] (dx D_f_greatest 17 rfl) ln_f_greatest_42 rfl rfl rfl (Nat.le_of_ble_eq_true rfl) h (fun g3 h => ?_)
      refine q_iinc (d := 1) (L' := [some (.ref 16), some (.int x1), some (.int x2), some (.int (x3 + 1))]) (dx D_f_greatest 18 rfl) rfl (by decide) (by decide) rfl ?_
      refine e_goto (tgt := 10) (dx D_f_greatest 19 rfl) (by decide) ?_
      exact h
abbrev Cj_addMark (x1 : Int32) (x2 : Int32) (g : Sg) (Q : Int32 → Sg → Prop) : Prop := Ci Mj_addMark [.ref 26, .int x1, .int x2] g Q
set_option maxRecDepth 20000 in
theorem Vj_addMark {x1 : Int32} {x2 : Int32} {g : Sg} {Q : Int32 → Sg → Prop} (h : (((g 26 3) < 8 → vp_in (g 26 3) 8 ∧ vp_in (g 26 3) 8 ∧ Q ((g 26 3) + 1) (sgU (sgU (sgU g 27 (g 26 3).toNatClampNeg x1) 28 (g 26 3).toNatClampNeg x2) 26 3 ((g 26 3) + 1))) ∧ (¬ (g 26 3) < 8 → Q (-4) g))) : Cj_addMark x1 x2 g Q := by
  refine Cl.of 0 pl_X2 rfl ?_
  refine e_aload_n (dx D_j_addMark 0 rfl) rfl ?_
  refine e_getI (dx D_j_addMark 1 rfl) fl_RX2_21 rfl rfl ?_
  refine q_bipush (v := 8) (dx D_j_addMark 2 rfl) (by decide) ?_
  refine e_icmp_lt (tgt := 12) (dx D_j_addMark 3 rfl) (by decide) (fun c => ?_) (fun c => ?_)
  · replace h := h.1 c
    refine e_aload_n (dx D_j_addMark 6 rfl) rfl ?_
    refine e_getR (dx D_j_addMark 7 rfl) fl_RX2_9 rfl rfl ?_
    refine e_aload_n (dx D_j_addMark 8 rfl) rfl ?_
    refine e_getI (dx D_j_addMark 9 rfl) fl_RX2_21 rfl rfl ?_
    refine e_iload_n (dx D_j_addMark 10 rfl) rfl ?_
    obtain ⟨hb1, h⟩ := h
    refine e_iast (dx D_j_addMark 11 rfl) rfl hb1 ?_
    refine e_aload_n (dx D_j_addMark 12 rfl) rfl ?_
    refine e_getR (dx D_j_addMark 13 rfl) fl_RX2_15 rfl rfl ?_
    refine e_aload_n (dx D_j_addMark 14 rfl) rfl ?_
    refine e_getI (dx D_j_addMark 15 rfl) fl_RX2_21 rfl rfl ?_
    refine e_iload_n (dx D_j_addMark 16 rfl) rfl ?_
    obtain ⟨hb2, h⟩ := h
    refine e_iast (dx D_j_addMark 17 rfl) rfl hb2 ?_
    refine e_aload_n (dx D_j_addMark 18 rfl) rfl ?_
    refine e_dup (dx D_j_addMark 19 rfl) rfl ?_
    refine e_getI (dx D_j_addMark 20 rfl) fl_RX2_21 rfl rfl ?_
    refine q_iconst (v := 1) (dx D_j_addMark 21 rfl) (by decide) ?_
    refine e_iadd (dx D_j_addMark 22 rfl) ?_
    refine e_putI (dx D_j_addMark 23 rfl) fp_RX2_21 rfl rfl ?_
    refine e_aload_n (dx D_j_addMark 24 rfl) rfl ?_
    refine e_getI (dx D_j_addMark 25 rfl) fl_RX2_21 rfl rfl ?_
    exact e_iret (dx D_j_addMark 26 rfl) rfl rfl ⟨_, rfl, h⟩
  · replace h := h.2 c
    refine q_bipush (v := (-4)) (dx D_j_addMark 4 rfl) (by decide) ?_
    exact e_iret (dx D_j_addMark 5 rfl) rfl rfl ⟨_, rfl, h⟩
abbrev Cj_addScene (x1 : Int32) (g : Sg) (Q : Int32 → Sg → Prop) : Prop := Ci Mj_addScene [.ref 26, .int x1] g Q
set_option maxRecDepth 20000 in
theorem Vj_addScene {x1 : Int32} {g : Sg} {Q : Int32 → Sg → Prop} (h : (((g 26 4) < 6 → vp_in (g 26 4) 6 ∧ Q ((g 26 4) + 1) (sgU (sgU g 29 (g 26 4).toNatClampNeg (x1 ||| 1)) 26 4 ((g 26 4) + 1))) ∧ (¬ (g 26 4) < 6 → Q (-4) g))) : Cj_addScene x1 g Q := by
  refine Cl.of 0 pl_X2 rfl ?_
  refine e_aload_n (dx D_j_addScene 0 rfl) rfl ?_
  refine e_getI (dx D_j_addScene 1 rfl) fl_RX2_25 rfl rfl ?_
  refine q_bipush (v := 6) (dx D_j_addScene 2 rfl) (by decide) ?_
  refine e_icmp_lt (tgt := 12) (dx D_j_addScene 3 rfl) (by decide) (fun c => ?_) (fun c => ?_)
  · replace h := h.1 c
    refine e_aload_n (dx D_j_addScene 6 rfl) rfl ?_
    refine e_getR (dx D_j_addScene 7 rfl) fl_RX2_18 rfl rfl ?_
    refine e_aload_n (dx D_j_addScene 8 rfl) rfl ?_
    refine e_getI (dx D_j_addScene 9 rfl) fl_RX2_25 rfl rfl ?_
    refine e_iload_n (dx D_j_addScene 10 rfl) rfl ?_
    refine q_iconst (v := 1) (dx D_j_addScene 11 rfl) (by decide) ?_
    refine e_ior (dx D_j_addScene 12 rfl) ?_
    obtain ⟨hb1, h⟩ := h
    refine e_iast (dx D_j_addScene 13 rfl) rfl hb1 ?_
    refine e_aload_n (dx D_j_addScene 14 rfl) rfl ?_
    refine e_dup (dx D_j_addScene 15 rfl) rfl ?_
    refine e_getI (dx D_j_addScene 16 rfl) fl_RX2_25 rfl rfl ?_
    refine q_iconst (v := 1) (dx D_j_addScene 17 rfl) (by decide) ?_
    refine e_iadd (dx D_j_addScene 18 rfl) ?_
    refine e_putI (dx D_j_addScene 19 rfl) fp_RX2_25 rfl rfl ?_
    refine e_aload_n (dx D_j_addScene 20 rfl) rfl ?_
    refine e_getI (dx D_j_addScene 21 rfl) fl_RX2_25 rfl rfl ?_
    exact e_iret (dx D_j_addScene 22 rfl) rfl rfl ⟨_, rfl, h⟩
  · replace h := h.2 c
    refine q_bipush (v := (-4)) (dx D_j_addScene 4 rfl) (by decide) ?_
    exact e_iret (dx D_j_addScene 5 rfl) rfl rfl ⟨_, rfl, h⟩
abbrev Cj_dropMarks (g : Sg) (Q : Int32 → Sg → Prop) : Prop := Ci Mj_dropMarks [.ref 26] g Q
set_option maxRecDepth 20000 in
theorem Vj_dropMarks {g : Sg} {Q : Int32 → Sg → Prop} (h : Q (g 26 3) (sgU g 26 3 0)) : Cj_dropMarks g Q := by
  refine Cl.of 1 pl_X2 rfl ?_
  refine e_aload_n (dx D_j_dropMarks 0 rfl) rfl ?_
  refine e_getI (dx D_j_dropMarks 1 rfl) fl_RX2_21 rfl rfl ?_
  refine q_istore_n (L' := [some (.ref 26), some (.int (g 26 3))]) (dx D_j_dropMarks 2 rfl) (by decide) rfl ?_
  refine e_aload_n (dx D_j_dropMarks 3 rfl) rfl ?_
  refine q_iconst (v := 0) (dx D_j_dropMarks 4 rfl) (by decide) ?_
  refine e_putI (dx D_j_dropMarks 5 rfl) fp_RX2_21 rfl rfl ?_
  refine e_iload_n (dx D_j_dropMarks 6 rfl) rfl ?_
  exact e_iret (dx D_j_dropMarks 7 rfl) rfl rfl ⟨_, rfl, h⟩
abbrev Cj_dropScenes (g : Sg) (Q : Int32 → Sg → Prop) : Prop := Ci Mj_dropScenes [.ref 26] g Q
set_option maxRecDepth 20000 in
theorem Vj_dropScenes {g : Sg} {Q : Int32 → Sg → Prop} (h : Q (g 26 4) (sgU g 26 4 0)) : Cj_dropScenes g Q := by
  refine Cl.of 1 pl_X2 rfl ?_
  refine e_aload_n (dx D_j_dropScenes 0 rfl) rfl ?_
  refine e_getI (dx D_j_dropScenes 1 rfl) fl_RX2_25 rfl rfl ?_
  refine q_istore_n (L' := [some (.ref 26), some (.int (g 26 4))]) (dx D_j_dropScenes 2 rfl) (by decide) rfl ?_
  refine e_aload_n (dx D_j_dropScenes 3 rfl) rfl ?_
  refine q_iconst (v := 0) (dx D_j_dropScenes 4 rfl) (by decide) ?_
  refine e_putI (dx D_j_dropScenes 5 rfl) fp_RX2_25 rfl rfl ?_
  refine e_iload_n (dx D_j_dropScenes 6 rfl) rfl ?_
  exact e_iret (dx D_j_dropScenes 7 rfl) rfl rfl ⟨_, rfl, h⟩
abbrev Cl_spread (x1 : Int32) (x2 : Int32) (g : Sg) (Q : Int32 → Sg → Prop) : Prop := Ci Ml_spread [.ref 20, .int x1, .int x2] g Q
set_option maxRecDepth 20000 in
theorem Vl_spread {x1 : Int32} {x2 : Int32} {g : Sg} {Q : Int32 → Sg → Prop} (h : (((0 ≤ (x2 / 8) ∧ (x2 / 8) ≤ 7) → (((0 ≤ (x2 - x2 / 8 * 8) ∧ (x2 - x2 / 8 * 8) ≤ 7) → (((tbb x1 (x2 / 8) = true) → vp_in (x2 / 8) 8 ∧ vp_in (x2 - x2 / 8 * 8) 8 ∧ Q ((x1 ||| (g 21 (x2 / 8).toNatClampNeg)) ||| (g 21 (x2 - x2 / 8 * 8).toNatClampNeg)) g) ∧ (¬ (tbb x1 (x2 / 8) = true) → (((tbb x1 (x2 - x2 / 8 * 8) = true) → vp_in (x2 / 8) 8 ∧ vp_in (x2 - x2 / 8 * 8) 8 ∧ Q ((x1 ||| (g 21 (x2 / 8).toNatClampNeg)) ||| (g 21 (x2 - x2 / 8 * 8).toNatClampNeg)) g) ∧ (¬ (tbb x1 (x2 - x2 / 8 * 8) = true) → Q x1 g))))) ∧ (¬ (0 ≤ (x2 - x2 / 8 * 8) ∧ (x2 - x2 / 8 * 8) ≤ 7) → Q x1 g))) ∧ (¬ (0 ≤ (x2 / 8) ∧ (x2 / 8) ≤ 7) → Q x1 g))) : Cl_spread x1 x2 g Q := by
  refine Cl.of 3 pl_X3 rfl ?_
  refine e_iload_n (dx D_l_spread 0 rfl) rfl ?_
  refine q_bipush (v := 8) (dx D_l_spread 1 rfl) (by decide) ?_
  refine e_idiv (dx D_l_spread 2 rfl) (by decide) ?_
  refine q_istore_n (L' := [some (.ref 20), some (.int x1), some (.int x2), some (.int (x2 / 8)), none, none]) (dx D_l_spread 3 rfl) (by decide) rfl ?_
  refine e_iload_n (dx D_l_spread 4 rfl) rfl ?_
  refine q_bipush (v := 8) (dx D_l_spread 5 rfl) (by decide) ?_
  refine e_irem (dx D_l_spread 6 rfl) (by decide) ?_
  refine q_istore (L' := [some (.ref 20), some (.int x1), some (.int x2), some (.int (x2 / 8)), some (.int (x2 - x2 / 8 * 8)), none]) (dx D_l_spread 7 rfl) (by decide) rfl ?_
  refine e_iload_n (dx D_l_spread 8 rfl) rfl ?_
  refine q_iconst (v := 0) (dx D_l_spread 9 rfl) (by decide) ?_
  refine q_bipush (v := 7) (dx D_l_spread 10 rfl) (by decide) ?_
  refine e_callSNi (Q1 := fun r g' => bP (0 ≤ (x2 / 8) ∧ (x2 / 8) ≤ 7) = r ∧ g = g') (rest := []) [.int (x2 / 8), .int 0, .int 7] (dx D_l_spread 11 rfl) ln_l_spread_78 rfl rfl (Nat.le_of_ble_eq_true rfl) (Ix_within  ⟨rfl, rfl⟩) (fun r g' hh => ?_)
  obtain ⟨rfl, rfl⟩ := hh
  refine e_if_eq (tgt := 32) (dx D_l_spread 12 rfl) (by decide) (fun c => ?_) (fun c => ?_)
  · replace h := h.2 (bP_z c)
    refine e_iload_n (dx D_l_spread 18 rfl) rfl ?_
    exact e_iret (dx D_l_spread 19 rfl) rfl rfl ⟨_, rfl, h⟩
  · replace h := h.1 (bP_n c)
    refine e_iload (dx D_l_spread 13 rfl) rfl ?_
    refine q_iconst (v := 0) (dx D_l_spread 14 rfl) (by decide) ?_
    refine q_bipush (v := 7) (dx D_l_spread 15 rfl) (by decide) ?_
    refine e_callSNi (Q1 := fun r g' => bP (0 ≤ (x2 - x2 / 8 * 8) ∧ (x2 - x2 / 8 * 8) ≤ 7) = r ∧ g = g') (rest := []) [.int (x2 - x2 / 8 * 8), .int 0, .int 7] (dx D_l_spread 16 rfl) ln_l_spread_78 rfl rfl (Nat.le_of_ble_eq_true rfl) (Ix_within  ⟨rfl, rfl⟩) (fun r g' hh => ?_)
    obtain ⟨rfl, rfl⟩ := hh
    refine e_if_ne (tgt := 34) (dx D_l_spread 17 rfl) (by decide) (fun c => ?_) (fun c => ?_)
    · replace h := h.1 (bP_n c)
      refine e_iload_n (dx D_l_spread 20 rfl) rfl ?_
      refine e_iload_n (dx D_l_spread 21 rfl) rfl ?_
      refine e_callSNi (Q1 := fun r g' => bP (tbb x1 (x2 / 8) = true) = r ∧ g = g') (rest := []) [.int x1, .int (x2 / 8)] (dx D_l_spread 22 rfl) ln_l_spread_72 rfl rfl (Nat.le_of_ble_eq_true rfl) (Ix_hasBit  ⟨rfl, rfl⟩) (fun r g' hh => ?_)
      obtain ⟨rfl, rfl⟩ := hh
      refine e_if_ne (tgt := 51) (dx D_l_spread 23 rfl) (by decide) (fun c => ?_) (fun c => ?_)
      · replace h := h.1 (bP_n c)
        refine q_iconst (v := 1) (dx D_l_spread 28 rfl) (by decide) ?_
        refine e_goto (tgt := 56) (dx D_l_spread 29 rfl) (by decide) ?_
        refine q_istore (L' := [some (.ref 20), some (.int x1), some (.int x2), some (.int (x2 / 8)), some (.int (x2 - x2 / 8 * 8)), some (.int 1)]) (dx D_l_spread 31 rfl) (by decide) rfl ?_
        refine e_iload (dx D_l_spread 32 rfl) rfl ?_
        refine e_if_eq (tgt := 82) (dx D_l_spread 33 rfl) (by decide) (fun c => ?_) (fun c => ?_)
        · exact absurd c (by decide)
        · skip
          refine e_iload_n (dx D_l_spread 34 rfl) rfl ?_
          refine e_aload_n (dx D_l_spread 35 rfl) rfl ?_
          refine e_getR (dx D_l_spread 36 rfl) fl_RX3_9 rfl rfl ?_
          refine e_iload_n (dx D_l_spread 37 rfl) rfl ?_
          obtain ⟨hb1, h⟩ := h
          refine e_iald (dx D_l_spread 38 rfl) rfl hb1 ?_
          refine e_ior (dx D_l_spread 39 rfl) ?_
          refine e_aload_n (dx D_l_spread 40 rfl) rfl ?_
          refine e_getR (dx D_l_spread 41 rfl) fl_RX3_9 rfl rfl ?_
          refine e_iload (dx D_l_spread 42 rfl) rfl ?_
          obtain ⟨hb2, h⟩ := h
          refine e_iald (dx D_l_spread 43 rfl) rfl hb2 ?_
          refine e_ior (dx D_l_spread 44 rfl) ?_
          refine e_goto (tgt := 83) (dx D_l_spread 45 rfl) (by decide) ?_
          exact e_iret (dx D_l_spread 47 rfl) rfl rfl ⟨_, rfl, h⟩
      · replace h := h.2 (bP_z c)
        refine e_iload_n (dx D_l_spread 24 rfl) rfl ?_
        refine e_iload (dx D_l_spread 25 rfl) rfl ?_
        refine e_callSNi (Q1 := fun r g' => bP (tbb x1 (x2 - x2 / 8 * 8) = true) = r ∧ g = g') (rest := []) [.int x1, .int (x2 - x2 / 8 * 8)] (dx D_l_spread 26 rfl) ln_l_spread_72 rfl rfl (Nat.le_of_ble_eq_true rfl) (Ix_hasBit  ⟨rfl, rfl⟩) (fun r g' hh => ?_)
        obtain ⟨rfl, rfl⟩ := hh
        refine e_if_eq (tgt := 55) (dx D_l_spread 27 rfl) (by decide) (fun c => ?_) (fun c => ?_)
        · replace h := h.2 (bP_z c)
          refine q_iconst (v := 0) (dx D_l_spread 30 rfl) (by decide) ?_
          refine q_istore (L' := [some (.ref 20), some (.int x1), some (.int x2), some (.int (x2 / 8)), some (.int (x2 - x2 / 8 * 8)), some (.int 0)]) (dx D_l_spread 31 rfl) (by decide) rfl ?_
          refine e_iload (dx D_l_spread 32 rfl) rfl ?_
          refine e_if_eq (tgt := 82) (dx D_l_spread 33 rfl) (by decide) (fun c => ?_) (fun c => ?_)
          · skip
            refine e_iload_n (dx D_l_spread 46 rfl) rfl ?_
            exact e_iret (dx D_l_spread 47 rfl) rfl rfl ⟨_, rfl, h⟩
          · exact absurd c (by decide)
        · replace h := h.1 (bP_n c)
          refine q_iconst (v := 1) (dx D_l_spread 28 rfl) (by decide) ?_
          refine e_goto (tgt := 56) (dx D_l_spread 29 rfl) (by decide) ?_
          refine q_istore (L' := [some (.ref 20), some (.int x1), some (.int x2), some (.int (x2 / 8)), some (.int (x2 - x2 / 8 * 8)), some (.int 1)]) (dx D_l_spread 31 rfl) (by decide) rfl ?_
          refine e_iload (dx D_l_spread 32 rfl) rfl ?_
          refine e_if_eq (tgt := 82) (dx D_l_spread 33 rfl) (by decide) (fun c => ?_) (fun c => ?_)
          · exact absurd c (by decide)
          · skip
            refine e_iload_n (dx D_l_spread 34 rfl) rfl ?_
            refine e_aload_n (dx D_l_spread 35 rfl) rfl ?_
            refine e_getR (dx D_l_spread 36 rfl) fl_RX3_9 rfl rfl ?_
            refine e_iload_n (dx D_l_spread 37 rfl) rfl ?_
            obtain ⟨hb3, h⟩ := h
            refine e_iald (dx D_l_spread 38 rfl) rfl hb3 ?_
            refine e_ior (dx D_l_spread 39 rfl) ?_
            refine e_aload_n (dx D_l_spread 40 rfl) rfl ?_
            refine e_getR (dx D_l_spread 41 rfl) fl_RX3_9 rfl rfl ?_
            refine e_iload (dx D_l_spread 42 rfl) rfl ?_
            obtain ⟨hb4, h⟩ := h
            refine e_iald (dx D_l_spread 43 rfl) rfl hb4 ?_
            refine e_ior (dx D_l_spread 44 rfl) ?_
            refine e_goto (tgt := 83) (dx D_l_spread 45 rfl) (by decide) ?_
            exact e_iret (dx D_l_spread 47 rfl) rfl rfl ⟨_, rfl, h⟩
    · replace h := h.2 (bP_z c)
      refine e_iload_n (dx D_l_spread 18 rfl) rfl ?_
      exact e_iret (dx D_l_spread 19 rfl) rfl rfl ⟨_, rfl, h⟩
abbrev Cl_burningWith (x1 : Int32) (x2 : Int32) (g : Sg) (Q : Int32 → Sg → Prop) : Prop := Ci Ml_burningWith [.ref 20, .int x1, .int x2] g Q
set_option maxRecDepth 20000 in
theorem Vl_burningWith {x1 : Int32} {x2 : Int32} {g : Sg} {Q : Int32 → Sg → Prop} (h : Cl_spread (g 21 0) x2 g (fun r2 g1 => ((x1 = (-1) → Q r2 g1) ∧ (¬ x1 = (-1) → Cl_spread r2 x1 g1 (fun r4 g3 => Cl_spread r4 x2 g3 (fun r6 g5 => Q r6 g5)))))) : Cl_burningWith x1 x2 g Q := by
  refine Cl.of 1 pl_X3 rfl ?_
  refine e_aload_n (dx D_l_burningWith 0 rfl) rfl ?_
  refine e_aload_n (dx D_l_burningWith 1 rfl) rfl ?_
  refine e_getR (dx D_l_burningWith 2 rfl) fl_RX3_9 rfl rfl ?_
  refine q_iconst (v := 0) (dx D_l_burningWith 3 rfl) (by decide) ?_
  refine e_iald (dx D_l_burningWith 4 rfl) rfl (by unfold vp_in; decide) ?_
  refine e_iload_n (dx D_l_burningWith 5 rfl) rfl ?_
  refine e_callVi (rest := []) [.int (g 21 0), .int x2] (dx D_l_burningWith 6 rfl) ln_l_burningWith_75 rfl rfl rfl (Nat.le_of_ble_eq_true rfl) h (fun r2 g1 h => ?_)
  refine q_istore_n (L' := [some (.ref 20), some (.int x1), some (.int x2), some (.int r2)]) (dx D_l_burningWith 7 rfl) (by decide) rfl ?_
  refine e_iload_n (dx D_l_burningWith 8 rfl) rfl ?_
  refine q_iconst (v := (-1)) (dx D_l_burningWith 9 rfl) (by decide) ?_
  refine e_icmp_ne (tgt := 19) (dx D_l_burningWith 10 rfl) (by decide) (fun c => ?_) (fun c => ?_)
  · replace h := h.2 c
    refine e_aload_n (dx D_l_burningWith 13 rfl) rfl ?_
    refine e_aload_n (dx D_l_burningWith 14 rfl) rfl ?_
    refine e_iload_n (dx D_l_burningWith 15 rfl) rfl ?_
    refine e_iload_n (dx D_l_burningWith 16 rfl) rfl ?_
    refine e_callVi (rest := [.ref 20]) [.int r2, .int x1] (dx D_l_burningWith 17 rfl) ln_l_burningWith_75 rfl rfl rfl (Nat.le_of_ble_eq_true rfl) h (fun r4 g3 h => ?_)
    refine e_iload_n (dx D_l_burningWith 18 rfl) rfl ?_
    refine e_callVi (rest := []) [.int r4, .int x2] (dx D_l_burningWith 19 rfl) ln_l_burningWith_75 rfl rfl rfl (Nat.le_of_ble_eq_true rfl) h (fun r6 g5 h => ?_)
    exact e_iret (dx D_l_burningWith 20 rfl) rfl rfl ⟨_, rfl, h⟩
  · replace h := h.1 c
    refine e_iload_n (dx D_l_burningWith 11 rfl) rfl ?_
    exact e_iret (dx D_l_burningWith 12 rfl) rfl rfl ⟨_, rfl, h⟩
abbrev Cw_reachedFrom (x1 : Int32) (g : Sg) (Q : Int32 → Sg → Prop) : Prop := Ci Mw_reachedFrom [.ref 7, .int x1] g Q
abbrev Hw_reachedFrom_10 (x2 : Int32) (x3 : Int32) (x4 : Int32) (g : Sg) (Q : Int32 → Sg → Prop) : Prop := Hi Mw_reachedFrom 10 [some (.ref 7), none, some (.int x2), some (.int x3), some (.int x4), none, none] [] g Q
abbrev Hw_reachedFrom_27 (x2 : Int32) (x3 : Int32) (x4 : Int32) (x5 : Int32) (g : Sg) (Q : Int32 → Sg → Prop) : Prop := Hi Mw_reachedFrom 27 [some (.ref 7), none, some (.int x2), some (.int x3), some (.int x4), some (.int x5), none] [] g Q
set_option maxRecDepth 20000 in
theorem Vw_reachedFrom {x1 : Int32} {g : Sg} {Q : Int32 → Sg → Prop} (h : Hw_reachedFrom_10 (sb x1) 0 0 g Q) : Cw_reachedFrom x1 g Q := by
  refine Cl.of 5 pl_X7 rfl ?_
  refine e_iload_n (dx D_w_reachedFrom 0 rfl) rfl ?_
  refine e_callSNi (Q1 := fun r g' => (sb x1) = r ∧ g = g') (rest := []) [.int x1] (dx D_w_reachedFrom 1 rfl) ln_w_reachedFrom_78 rfl rfl (Nat.le_of_ble_eq_true rfl) (Ix_bit  ⟨rfl, rfl⟩) (fun r g' hh => ?_)
  obtain ⟨rfl, rfl⟩ := hh
  refine q_istore_n (L' := [some (.ref 7), some (.int x1), some (.int (sb x1)), none, none, none, none]) (dx D_w_reachedFrom 2 rfl) (by decide) rfl ?_
  refine q_iconst (v := 0) (dx D_w_reachedFrom 3 rfl) (by decide) ?_
  refine q_istore_n (L' := [some (.ref 7), some (.int x1), some (.int (sb x1)), some (.int 0), none, none, none]) (dx D_w_reachedFrom 4 rfl) (by decide) rfl ?_
  refine q_iconst (v := 0) (dx D_w_reachedFrom 5 rfl) (by decide) ?_
  refine q_istore (L' := [some (.ref 7), some (.int x1), some (.int (sb x1)), some (.int 0), some (.int 0), none, none]) (dx D_w_reachedFrom 6 rfl) (by decide) rfl ?_
  exact Wp.mask [true, false, true, true, true, false, false] h
set_option maxRecDepth 20000 in
theorem Vw_reachedFrom_10 {x2 : Int32} {x3 : Int32} {x4 : Int32} {g : Sg} {Q : Int32 → Sg → Prop} (h : ((8 ≤ x4 → Q x2 g) ∧ (¬ 8 ≤ x4 → ((x2 = x3 → Q x2 g) ∧ (¬ x2 = x3 → Hw_reachedFrom_27 x2 x2 x4 0 g Q))))) : Hw_reachedFrom_10 x2 x3 x4 g Q := by
  refine e_iload (dx D_w_reachedFrom 7 rfl) rfl ?_
  refine q_bipush (v := 8) (dx D_w_reachedFrom 8 rfl) (by decide) ?_
  refine e_icmp_ge (tgt := 101) (dx D_w_reachedFrom 9 rfl) (by decide) (fun c => ?_) (fun c => ?_)
  · replace h := h.1 c
    refine e_iload_n (dx D_w_reachedFrom 52 rfl) rfl ?_
    exact e_iret (dx D_w_reachedFrom 53 rfl) rfl rfl ⟨_, rfl, h⟩
  · replace h := h.2 c
    refine e_iload_n (dx D_w_reachedFrom 10 rfl) rfl ?_
    refine e_iload_n (dx D_w_reachedFrom 11 rfl) rfl ?_
    refine e_icmp_eq (tgt := 101) (dx D_w_reachedFrom 12 rfl) (by decide) (fun c => ?_) (fun c => ?_)
    · replace h := h.1 c
      refine e_iload_n (dx D_w_reachedFrom 52 rfl) rfl ?_
      exact e_iret (dx D_w_reachedFrom 53 rfl) rfl rfl ⟨_, rfl, h⟩
    · replace h := h.2 c
      refine e_iload_n (dx D_w_reachedFrom 13 rfl) rfl ?_
      refine q_istore_n (L' := [some (.ref 7), none, some (.int x2), some (.int x2), some (.int x4), none, none]) (dx D_w_reachedFrom 14 rfl) (by decide) rfl ?_
      refine q_iconst (v := 0) (dx D_w_reachedFrom 15 rfl) (by decide) ?_
      refine q_istore (L' := [some (.ref 7), none, some (.int x2), some (.int x2), some (.int x4), some (.int 0), none]) (dx D_w_reachedFrom 16 rfl) (by decide) rfl ?_
      exact h
set_option maxRecDepth 20000 in
theorem Vw_reachedFrom_27 {x2 : Int32} {x3 : Int32} {x4 : Int32} {x5 : Int32} {g : Sg} {Q : Int32 → Sg → Prop} (h : (((g 1 8) ≤ x5 → Hw_reachedFrom_10 x2 x3 (x4 + 1) g Q) ∧ (¬ (g 1 8) ≤ x5 → vp_in x5 16 ∧ vp_in x5 16 ∧ (((x2 &&& ((sb (g 3 (x5).toNatClampNeg)) ||| (sb (g 4 (x5).toNatClampNeg)))) = 0 → Hw_reachedFrom_27 x2 x3 x4 (x5 + 1) g Q) ∧ (¬ (x2 &&& ((sb (g 3 (x5).toNatClampNeg)) ||| (sb (g 4 (x5).toNatClampNeg)))) = 0 → vp_in x5 16 ∧ (((tbb (g 1 9) x5 = false ∧ g 8 (x5).toNatClampNeg < g 1 10) → Hw_reachedFrom_27 (x2 ||| ((sb (g 3 (x5).toNatClampNeg)) ||| (sb (g 4 (x5).toNatClampNeg)))) x3 x4 (x5 + 1) g Q) ∧ (¬ (tbb (g 1 9) x5 = false ∧ g 8 (x5).toNatClampNeg < g 1 10) → Hw_reachedFrom_27 x2 x3 x4 (x5 + 1) g Q))))))) : Hw_reachedFrom_27 x2 x3 x4 x5 g Q := by
  refine e_iload (dx D_w_reachedFrom 17 rfl) rfl ?_
  refine e_aload_n (dx D_w_reachedFrom 18 rfl) rfl ?_
  refine e_getR (dx D_w_reachedFrom 19 rfl) fl_RX7_21 rfl rfl ?_
  refine e_getI (dx D_w_reachedFrom 20 rfl) fl_RX7_55 rfl rfl ?_
  refine e_icmp_ge (tgt := 95) (dx D_w_reachedFrom 21 rfl) (by decide) (fun c => ?_) (fun c => ?_)
  · replace h := h.1 c
    refine q_iinc (d := 1) (L' := [some (.ref 7), none, some (.int x2), some (.int x3), some (.int (x4 + 1)), some (.int x5), none]) (dx D_w_reachedFrom 50 rfl) rfl (by decide) (by decide) rfl ?_
    refine e_goto (tgt := 10) (dx D_w_reachedFrom 51 rfl) (by decide) ?_
    exact Wp.mask [true, false, true, true, true, false, false] h
  · replace h := h.2 c
    refine e_aload_n (dx D_w_reachedFrom 22 rfl) rfl ?_
    refine e_getR (dx D_w_reachedFrom 23 rfl) fl_RX7_21 rfl rfl ?_
    refine e_getR (dx D_w_reachedFrom 24 rfl) fl_RX7_65 rfl rfl ?_
    refine e_iload (dx D_w_reachedFrom 25 rfl) rfl ?_
    obtain ⟨hb1, h⟩ := h
    refine e_iald (dx D_w_reachedFrom 26 rfl) rfl hb1 ?_
    refine e_callSNi (Q1 := fun r g' => (sb (g 3 (x5).toNatClampNeg)) = r ∧ g = g') (rest := []) [.int (g 3 (x5).toNatClampNeg)] (dx D_w_reachedFrom 27 rfl) ln_w_reachedFrom_78 rfl rfl (Nat.le_of_ble_eq_true rfl) (Ix_bit  ⟨rfl, rfl⟩) (fun r g' hh => ?_)
    obtain ⟨rfl, rfl⟩ := hh
    refine e_aload_n (dx D_w_reachedFrom 28 rfl) rfl ?_
    refine e_getR (dx D_w_reachedFrom 29 rfl) fl_RX7_21 rfl rfl ?_
    refine e_getR (dx D_w_reachedFrom 30 rfl) fl_RX7_68 rfl rfl ?_
    refine e_iload (dx D_w_reachedFrom 31 rfl) rfl ?_
    obtain ⟨hb2, h⟩ := h
    refine e_iald (dx D_w_reachedFrom 32 rfl) rfl hb2 ?_
    refine e_callSNi (Q1 := fun r g' => (sb (g 4 (x5).toNatClampNeg)) = r ∧ g = g') (rest := [.int (sb (g 3 (x5).toNatClampNeg))]) [.int (g 4 (x5).toNatClampNeg)] (dx D_w_reachedFrom 33 rfl) ln_w_reachedFrom_78 rfl rfl (Nat.le_of_ble_eq_true rfl) (Ix_bit  ⟨rfl, rfl⟩) (fun r g' hh => ?_)
    obtain ⟨rfl, rfl⟩ := hh
    refine e_ior (dx D_w_reachedFrom 34 rfl) ?_
    refine q_istore (L' := [some (.ref 7), none, some (.int x2), some (.int x3), some (.int x4), some (.int x5), some (.int ((sb (g 3 (x5).toNatClampNeg)) ||| (sb (g 4 (x5).toNatClampNeg))))]) (dx D_w_reachedFrom 35 rfl) (by decide) rfl ?_
    refine e_iload_n (dx D_w_reachedFrom 36 rfl) rfl ?_
    refine e_iload (dx D_w_reachedFrom 37 rfl) rfl ?_
    refine e_iand (dx D_w_reachedFrom 38 rfl) ?_
    refine e_if_eq (tgt := 89) (dx D_w_reachedFrom 39 rfl) (by decide) (fun c => ?_) (fun c => ?_)
    · replace h := h.1 c
      refine q_iinc (d := 1) (L' := [some (.ref 7), none, some (.int x2), some (.int x3), some (.int x4), some (.int (x5 + 1)), some (.int ((sb (g 3 (x5).toNatClampNeg)) ||| (sb (g 4 (x5).toNatClampNeg))))]) (dx D_w_reachedFrom 48 rfl) rfl (by decide) (by decide) rfl ?_
      refine e_goto (tgt := 27) (dx D_w_reachedFrom 49 rfl) (by decide) ?_
      exact Wp.mask [true, false, true, true, true, true, false] h
    · replace h := h.2 c
      refine e_aload_n (dx D_w_reachedFrom 40 rfl) rfl ?_
      refine e_iload (dx D_w_reachedFrom 41 rfl) rfl ?_
      obtain ⟨hb3, h⟩ := h
      refine e_callVi (Q1 := fun r g' => bP (tbb (g 1 9) x5 = false ∧ g 8 (x5).toNatClampNeg < g 1 10) = r ∧ g = g') (rest := []) [.int x5] (dx D_w_reachedFrom 42 rfl) ln_w_reachedFrom_58 rfl rfl rfl (Nat.le_of_ble_eq_true rfl) (Iw_isOpen hb3 ⟨rfl, rfl⟩) (fun r g' hh => ?_)
      obtain ⟨rfl, rfl⟩ := hh
      refine e_if_eq (tgt := 89) (dx D_w_reachedFrom 43 rfl) (by decide) (fun c => ?_) (fun c => ?_)
      · replace h := h.2 (bP_z c)
        refine q_iinc (d := 1) (L' := [some (.ref 7), none, some (.int x2), some (.int x3), some (.int x4), some (.int (x5 + 1)), some (.int ((sb (g 3 (x5).toNatClampNeg)) ||| (sb (g 4 (x5).toNatClampNeg))))]) (dx D_w_reachedFrom 48 rfl) rfl (by decide) (by decide) rfl ?_
        refine e_goto (tgt := 27) (dx D_w_reachedFrom 49 rfl) (by decide) ?_
        exact Wp.mask [true, false, true, true, true, true, false] h
      · replace h := h.1 (bP_n c)
        refine e_iload_n (dx D_w_reachedFrom 44 rfl) rfl ?_
        refine e_iload (dx D_w_reachedFrom 45 rfl) rfl ?_
        refine e_ior (dx D_w_reachedFrom 46 rfl) ?_
        refine q_istore_n (L' := [some (.ref 7), none, some (.int (x2 ||| ((sb (g 3 (x5).toNatClampNeg)) ||| (sb (g 4 (x5).toNatClampNeg))))), some (.int x3), some (.int x4), some (.int x5), some (.int ((sb (g 3 (x5).toNatClampNeg)) ||| (sb (g 4 (x5).toNatClampNeg))))]) (dx D_w_reachedFrom 47 rfl) (by decide) rfl ?_
        refine q_iinc (d := 1) (L' := [some (.ref 7), none, some (.int (x2 ||| ((sb (g 3 (x5).toNatClampNeg)) ||| (sb (g 4 (x5).toNatClampNeg))))), some (.int x3), some (.int x4), some (.int (x5 + 1)), some (.int ((sb (g 3 (x5).toNatClampNeg)) ||| (sb (g 4 (x5).toNatClampNeg))))]) (dx D_w_reachedFrom 48 rfl) rfl (by decide) (by decide) rfl ?_
        refine e_goto (tgt := 27) (dx D_w_reachedFrom 49 rfl) (by decide) ?_
        exact Wp.mask [true, false, true, true, true, true, false] h
abbrev Cl_lastLetIn (x1 : Int32) (x2 : Int32) (g : Sg) (Q : Int32 → Sg → Prop) : Prop := Ci Ml_lastLetIn [.ref 20, .int x1, .int x2] g Q
abbrev Hl_lastLetIn_2 (x1 : Int32) (x2 : Int32) (x3 : Int32) (g : Sg) (Q : Int32 → Sg → Prop) : Prop := Hi Ml_lastLetIn 2 [some (.ref 20), some (.int x1), some (.int x2), some (.int x3), none, none] [] g Q
set_option maxRecDepth 20000 in
theorem Vl_lastLetIn {x1 : Int32} {x2 : Int32} {g : Sg} {Q : Int32 → Sg → Prop} (h : Hl_lastLetIn_2 x1 x2 0 g Q) : Cl_lastLetIn x1 x2 g Q := by
  refine Cl.of 3 pl_X3 rfl ?_
  refine q_iconst (v := 0) (dx D_l_lastLetIn 0 rfl) (by decide) ?_
  refine q_istore_n (L' := [some (.ref 20), some (.int x1), some (.int x2), some (.int 0), none, none]) (dx D_l_lastLetIn 1 rfl) (by decide) rfl ?_
  exact h
set_option maxRecDepth 20000 in
theorem Vl_lastLetIn_2 {x1 : Int32} {x2 : Int32} {x3 : Int32} {g : Sg} {Q : Int32 → Sg → Prop} (h : ((64 ≤ x3 → Q (-1) g) ∧ (¬ 64 ≤ x3 → (((x3 / 8) = (x3 - x3 / 8 * 8) → Hl_lastLetIn_2 x1 x2 (x3 + 1) g Q) ∧ (¬ (x3 / 8) = (x3 - x3 / 8 * 8) → Cl_burningWith x2 x3 g (fun r2 g1 => ((((x1 &&& (r2 ^^^ (-1))) = 0) → Cw_reachedFrom (x3 / 8) g1 (fun r4 g3 => (((tbb r4 (x3 - x3 / 8 * 8) = true) → Q x3 g3) ∧ (¬ (tbb r4 (x3 - x3 / 8 * 8) = true) → Hl_lastLetIn_2 x1 x2 (x3 + 1) g3 Q)))) ∧ (¬ ((x1 &&& (r2 ^^^ (-1))) = 0) → Hl_lastLetIn_2 x1 x2 (x3 + 1) g1 Q)))))))) : Hl_lastLetIn_2 x1 x2 x3 g Q := by
  refine e_iload_n (dx D_l_lastLetIn 2 rfl) rfl ?_
  refine q_bipush (v := 64) (dx D_l_lastLetIn 3 rfl) (by decide) ?_
  refine e_icmp_ge (tgt := 65) (dx D_l_lastLetIn 4 rfl) (by decide) (fun c => ?_) (fun c => ?_)
  · replace h := h.1 c
    refine q_iconst (v := (-1)) (dx D_l_lastLetIn 34 rfl) (by decide) ?_
    exact e_iret (dx D_l_lastLetIn 35 rfl) rfl rfl ⟨_, rfl, h⟩
  · replace h := h.2 c
    refine e_iload_n (dx D_l_lastLetIn 5 rfl) rfl ?_
    refine q_bipush (v := 8) (dx D_l_lastLetIn 6 rfl) (by decide) ?_
    refine e_idiv (dx D_l_lastLetIn 7 rfl) (by decide) ?_
    refine q_istore (L' := [some (.ref 20), some (.int x1), some (.int x2), some (.int x3), some (.int (x3 / 8)), none]) (dx D_l_lastLetIn 8 rfl) (by decide) rfl ?_
    refine e_iload_n (dx D_l_lastLetIn 9 rfl) rfl ?_
    refine q_bipush (v := 8) (dx D_l_lastLetIn 10 rfl) (by decide) ?_
    refine e_irem (dx D_l_lastLetIn 11 rfl) (by decide) ?_
    refine q_istore (L' := [some (.ref 20), some (.int x1), some (.int x2), some (.int x3), some (.int (x3 / 8)), some (.int (x3 - x3 / 8 * 8))]) (dx D_l_lastLetIn 12 rfl) (by decide) rfl ?_
    refine e_iload (dx D_l_lastLetIn 13 rfl) rfl ?_
    refine e_iload (dx D_l_lastLetIn 14 rfl) rfl ?_
    refine e_icmp_eq (tgt := 59) (dx D_l_lastLetIn 15 rfl) (by decide) (fun c => ?_) (fun c => ?_)
    · replace h := h.1 c
      refine q_iinc (d := 1) (L' := [some (.ref 20), some (.int x1), some (.int x2), some (.int (x3 + 1)), some (.int (x3 / 8)), some (.int (x3 - x3 / 8 * 8))]) (dx D_l_lastLetIn 32 rfl) rfl (by decide) (by decide) rfl ?_
      refine e_goto (tgt := 2) (dx D_l_lastLetIn 33 rfl) (by decide) ?_
      exact Wp.mask [true, true, true, true, false, false] h
    · replace h := h.2 c
      refine e_aload_n (dx D_l_lastLetIn 16 rfl) rfl ?_
      refine e_iload_n (dx D_l_lastLetIn 17 rfl) rfl ?_
      refine e_iload_n (dx D_l_lastLetIn 18 rfl) rfl ?_
      refine e_callVi (rest := []) [.int x2, .int x3] (dx D_l_lastLetIn 19 rfl) ln_l_lastLetIn_65 rfl rfl rfl (Nat.le_of_ble_eq_true rfl) h (fun r2 g1 h => ?_)
      refine e_iload_n (dx D_l_lastLetIn 20 rfl) rfl ?_
      refine e_callSi (Q1 := fun r g' => bP ((x1 &&& (r2 ^^^ (-1))) = 0) = r ∧ g1 = g') (rest := []) [.int r2, .int x1] (dx D_l_lastLetIn 21 rfl) ln_l_lastLetIn_43 rfl rfl (Nat.le_of_ble_eq_true rfl) (Il_holdsAll  ⟨rfl, rfl⟩) (fun r g' hh => ?_)
      obtain ⟨rfl, rfl⟩ := hh
      refine e_if_eq (tgt := 59) (dx D_l_lastLetIn 22 rfl) (by decide) (fun c => ?_) (fun c => ?_)
      · replace h := h.2 (bP_z c)
        refine q_iinc (d := 1) (L' := [some (.ref 20), some (.int x1), some (.int x2), some (.int (x3 + 1)), some (.int (x3 / 8)), some (.int (x3 - x3 / 8 * 8))]) (dx D_l_lastLetIn 32 rfl) rfl (by decide) (by decide) rfl ?_
        refine e_goto (tgt := 2) (dx D_l_lastLetIn 33 rfl) (by decide) ?_
        exact Wp.mask [true, true, true, true, false, false] h
      · replace h := h.1 (bP_n c)
        refine e_aload_n (dx D_l_lastLetIn 23 rfl) rfl ?_
        refine e_getR (dx D_l_lastLetIn 24 rfl) fl_RX3_19 rfl rfl ?_
        refine e_iload (dx D_l_lastLetIn 25 rfl) rfl ?_
        refine e_callVi (rest := []) [.int (x3 / 8)] (dx D_l_lastLetIn 26 rfl) ln_l_lastLetIn_68 rfl rfl rfl (Nat.le_of_ble_eq_true rfl) h (fun r4 g3 h => ?_)
        refine e_iload (dx D_l_lastLetIn 27 rfl) rfl ?_
        refine e_callSNi (Q1 := fun r g' => bP (tbb r4 (x3 - x3 / 8 * 8) = true) = r ∧ g3 = g') (rest := []) [.int r4, .int (x3 - x3 / 8 * 8)] (dx D_l_lastLetIn 28 rfl) ln_l_lastLetIn_72 rfl rfl (Nat.le_of_ble_eq_true rfl) (Ix_hasBit  ⟨rfl, rfl⟩) (fun r g' hh => ?_)
        obtain ⟨rfl, rfl⟩ := hh
        refine e_if_eq (tgt := 59) (dx D_l_lastLetIn 29 rfl) (by decide) (fun c => ?_) (fun c => ?_)
        · replace h := h.2 (bP_z c)
          refine q_iinc (d := 1) (L' := [some (.ref 20), some (.int x1), some (.int x2), some (.int (x3 + 1)), some (.int (x3 / 8)), some (.int (x3 - x3 / 8 * 8))]) (dx D_l_lastLetIn 32 rfl) rfl (by decide) (by decide) rfl ?_
          refine e_goto (tgt := 2) (dx D_l_lastLetIn 33 rfl) (by decide) ?_
          exact Wp.mask [true, true, true, true, false, false] h
        · replace h := h.1 (bP_n c)
          refine e_iload_n (dx D_l_lastLetIn 30 rfl) rfl ?_
          exact e_iret (dx D_l_lastLetIn 31 rfl) rfl rfl ⟨_, rfl, h⟩
abbrev Cw_drawAlongRow (x1 : Int32) (g : Sg) (Q : Sg → Prop) : Prop := Cv Mw_drawAlongRow [.ref 7, .int x1] g Q
abbrev Hw_drawAlongRow_2 (x1 : Int32) (x2 : Int32) (g : Sg) (Q : Sg → Prop) : Prop := Hv Mw_drawAlongRow 2 [some (.ref 7), some (.int x1), some (.int x2)] [] g Q
set_option maxRecDepth 20000 in
theorem Vw_drawAlongRow {x1 : Int32} {g : Sg} {Q : Sg → Prop} (h : Hw_drawAlongRow_2 x1 0 g Q) : Cw_drawAlongRow x1 g Q := by
  refine Cl.of 1 pl_X7 rfl ?_
  refine q_iconst (v := 0) (dx D_w_drawAlongRow 0 rfl) (by decide) ?_
  refine q_istore_n (L' := [some (.ref 7), some (.int x1), some (.int 0)]) (dx D_w_drawAlongRow 1 rfl) (by decide) rfl ?_
  exact h
set_option maxRecDepth 20000 in
theorem Vw_drawAlongRow_2 {x1 : Int32} {x2 : Int32} {g : Sg} {Q : Sg → Prop} (h : (((g 7 4) ≤ x2 → Q g) ∧ (¬ (g 7 4) ≤ x2 → vp_in x2 8 ∧ vp_in (g 10 (x2).toNatClampNeg) 16 ∧ vp_in (g 10 (x2).toNatClampNeg) 16 ∧ Hw_drawAlongRow_2 x1 (x2 + 1) (sgU g 8 (g 10 (x2).toNatClampNeg).toNatClampNeg ((g 8 (g 10 (x2).toNatClampNeg).toNatClampNeg) + x1)) Q))) : Hw_drawAlongRow_2 x1 x2 g Q := by
  refine e_iload_n (dx D_w_drawAlongRow 2 rfl) rfl ?_
  refine e_aload_n (dx D_w_drawAlongRow 3 rfl) rfl ?_
  refine e_getI (dx D_w_drawAlongRow 4 rfl) fl_RX7_38 rfl rfl ?_
  refine e_icmp_ge (tgt := 31) (dx D_w_drawAlongRow 5 rfl) (by decide) (fun c => ?_) (fun c => ?_)
  · replace h := h.1 c
    exact e_vret (dx D_w_drawAlongRow 19 rfl) rfl ⟨rfl, h⟩
  · replace h := h.2 c
    refine e_aload_n (dx D_w_drawAlongRow 6 rfl) rfl ?_
    refine e_getR (dx D_w_drawAlongRow 7 rfl) fl_RX7_9 rfl rfl ?_
    refine e_aload_n (dx D_w_drawAlongRow 8 rfl) rfl ?_
    refine e_getR (dx D_w_drawAlongRow 9 rfl) fl_RX7_18 rfl rfl ?_
    refine e_iload_n (dx D_w_drawAlongRow 10 rfl) rfl ?_
    obtain ⟨hb1, h⟩ := h
    refine e_iald (dx D_w_drawAlongRow 11 rfl) rfl hb1 ?_
    refine e_dup2 (dx D_w_drawAlongRow 12 rfl) rfl rfl ?_
    obtain ⟨hb2, h⟩ := h
    refine e_iald (dx D_w_drawAlongRow 13 rfl) rfl hb2 ?_
    refine e_iload_n (dx D_w_drawAlongRow 14 rfl) rfl ?_
    refine e_iadd (dx D_w_drawAlongRow 15 rfl) ?_
    obtain ⟨hb3, h⟩ := h
    refine e_iast (dx D_w_drawAlongRow 16 rfl) rfl hb3 ?_
    refine q_iinc (d := 1) (L' := [some (.ref 7), some (.int x1), some (.int (x2 + 1))]) (dx D_w_drawAlongRow 17 rfl) rfl (by decide) (by decide) rfl ?_
    refine e_goto (tgt := 2) (dx D_w_drawAlongRow 18 rfl) (by decide) ?_
    exact h
abbrev Cl_seekTwo (x1 : Int32) (g : Sg) (Q : Sg → Prop) : Prop := Cv Ml_seekTwo [.ref 20, .int x1] g Q
abbrev Hl_seekTwo_2 (x1 : Int32) (x2 : Int32) (g : Sg) (Q : Sg → Prop) : Prop := Hv Ml_seekTwo 2 [some (.ref 20), some (.int x1), some (.int x2), none, none, none] [] g Q
set_option maxRecDepth 20000 in
theorem Vl_seekTwo {x1 : Int32} {g : Sg} {Q : Sg → Prop} (h : Hl_seekTwo_2 x1 0 g Q) : Cl_seekTwo x1 g Q := by
  refine Cl.of 4 pl_X3 rfl ?_
  refine q_iconst (v := 0) (dx D_l_seekTwo 0 rfl) (by decide) ?_
  refine q_istore_n (L' := [some (.ref 20), some (.int x1), some (.int 0), none, none, none]) (dx D_l_seekTwo 1 rfl) (by decide) rfl ?_
  exact h
set_option maxRecDepth 20000 in
theorem Vl_seekTwo_2 {x1 : Int32} {x2 : Int32} {g : Sg} {Q : Sg → Prop} (h : ((64 ≤ x2 → Q g) ∧ (¬ 64 ≤ x2 → (((x2 / 8) = (x2 - x2 / 8 * 8) → Hl_seekTwo_2 x1 (x2 + 1) g Q) ∧ (¬ (x2 / 8) = (x2 - x2 / 8 * 8) → Cw_find (x2 / 8) (x2 - x2 / 8 * 8) g (fun r2 g1 => ((r2 = 0 → Hl_seekTwo_2 x1 (x2 + 1) g1 Q) ∧ (¬ r2 = 0 → Cw_drawAlongRow 1 g1 (fun g3 => Cl_lastLetIn x1 x2 g3 (fun r5 g4 => Cw_drawAlongRow (-1) g4 (fun g6 => ((r5 = (-1) → Hl_seekTwo_2 x1 (x2 + 1) g6 Q) ∧ (¬ r5 = (-1) → Q (sgU (sgU (sgU g6 20 3 2) 20 4 x2) 20 5 r5)))))))))))))) : Hl_seekTwo_2 x1 x2 g Q := by
  refine e_iload_n (dx D_l_seekTwo 2 rfl) rfl ?_
  refine q_bipush (v := 64) (dx D_l_seekTwo 3 rfl) (by decide) ?_
  refine e_icmp_ge (tgt := 94) (dx D_l_seekTwo 4 rfl) (by decide) (fun c => ?_) (fun c => ?_)
  · replace h := h.1 c
    exact e_vret (dx D_l_seekTwo 51 rfl) rfl ⟨rfl, h⟩
  · replace h := h.2 c
    refine e_iload_n (dx D_l_seekTwo 5 rfl) rfl ?_
    refine q_bipush (v := 8) (dx D_l_seekTwo 6 rfl) (by decide) ?_
    refine e_idiv (dx D_l_seekTwo 7 rfl) (by decide) ?_
    refine q_istore_n (L' := [some (.ref 20), some (.int x1), some (.int x2), some (.int (x2 / 8)), none, none]) (dx D_l_seekTwo 8 rfl) (by decide) rfl ?_
    refine e_iload_n (dx D_l_seekTwo 9 rfl) rfl ?_
    refine q_bipush (v := 8) (dx D_l_seekTwo 10 rfl) (by decide) ?_
    refine e_irem (dx D_l_seekTwo 11 rfl) (by decide) ?_
    refine q_istore (L' := [some (.ref 20), some (.int x1), some (.int x2), some (.int (x2 / 8)), some (.int (x2 - x2 / 8 * 8)), none]) (dx D_l_seekTwo 12 rfl) (by decide) rfl ?_
    refine e_iload_n (dx D_l_seekTwo 13 rfl) rfl ?_
    refine e_iload (dx D_l_seekTwo 14 rfl) rfl ?_
    refine e_icmp_eq (tgt := 88) (dx D_l_seekTwo 15 rfl) (by decide) (fun c => ?_) (fun c => ?_)
    · replace h := h.1 c
      refine q_iinc (d := 1) (L' := [some (.ref 20), some (.int x1), some (.int (x2 + 1)), some (.int (x2 / 8)), some (.int (x2 - x2 / 8 * 8)), none]) (dx D_l_seekTwo 49 rfl) rfl (by decide) (by decide) rfl ?_
      refine e_goto (tgt := 2) (dx D_l_seekTwo 50 rfl) (by decide) ?_
      exact Wp.mask [true, true, true, false, false, false] h
    · replace h := h.2 c
      refine e_aload_n (dx D_l_seekTwo 16 rfl) rfl ?_
      refine e_getR (dx D_l_seekTwo 17 rfl) fl_RX3_19 rfl rfl ?_
      refine e_iload_n (dx D_l_seekTwo 18 rfl) rfl ?_
      refine e_iload (dx D_l_seekTwo 19 rfl) rfl ?_
      refine e_callVi (rest := []) [.int (x2 / 8), .int (x2 - x2 / 8 * 8)] (dx D_l_seekTwo 20 rfl) ln_l_seekTwo_57 rfl rfl rfl (Nat.le_of_ble_eq_true rfl) h (fun r2 g1 h => ?_)
      refine e_if_ne (tgt := 41) (dx D_l_seekTwo 21 rfl) (by decide) (fun c => ?_) (fun c => ?_)
      · replace h := h.2 c
        refine e_aload_n (dx D_l_seekTwo 23 rfl) rfl ?_
        refine e_getR (dx D_l_seekTwo 24 rfl) fl_RX3_19 rfl rfl ?_
        refine q_iconst (v := 1) (dx D_l_seekTwo 25 rfl) (by decide) ?_
        refine e_callVv (rest := []) [.int 1] (dx D_l_seekTwo 26 rfl) ln_l_seekTwo_62 rfl rfl rfl (Nat.le_of_ble_eq_true rfl) h (fun g3 h => ?_)
        refine e_aload_n (dx D_l_seekTwo 27 rfl) rfl ?_
        refine e_iload_n (dx D_l_seekTwo 28 rfl) rfl ?_
        refine e_iload_n (dx D_l_seekTwo 29 rfl) rfl ?_
        refine e_callVi (rest := []) [.int x1, .int x2] (dx D_l_seekTwo 30 rfl) ln_l_seekTwo_50 rfl rfl rfl (Nat.le_of_ble_eq_true rfl) h (fun r5 g4 h => ?_)
        refine q_istore (L' := [some (.ref 20), some (.int x1), some (.int x2), some (.int (x2 / 8)), some (.int (x2 - x2 / 8 * 8)), some (.int r5)]) (dx D_l_seekTwo 31 rfl) (by decide) rfl ?_
        refine e_aload_n (dx D_l_seekTwo 32 rfl) rfl ?_
        refine e_getR (dx D_l_seekTwo 33 rfl) fl_RX3_19 rfl rfl ?_
        refine q_iconst (v := (-1)) (dx D_l_seekTwo 34 rfl) (by decide) ?_
        refine e_callVv (rest := []) [.int (-1)] (dx D_l_seekTwo 35 rfl) ln_l_seekTwo_62 rfl rfl rfl (Nat.le_of_ble_eq_true rfl) h (fun g6 h => ?_)
        refine e_iload (dx D_l_seekTwo 36 rfl) rfl ?_
        refine q_iconst (v := (-1)) (dx D_l_seekTwo 37 rfl) (by decide) ?_
        refine e_icmp_eq (tgt := 88) (dx D_l_seekTwo 38 rfl) (by decide) (fun c => ?_) (fun c => ?_)
        · replace h := h.1 c
          refine q_iinc (d := 1) (L' := [some (.ref 20), some (.int x1), some (.int (x2 + 1)), some (.int (x2 / 8)), some (.int (x2 - x2 / 8 * 8)), some (.int r5)]) (dx D_l_seekTwo 49 rfl) rfl (by decide) (by decide) rfl ?_
          refine e_goto (tgt := 2) (dx D_l_seekTwo 50 rfl) (by decide) ?_
          exact Wp.mask [true, true, true, false, false, false] h
        · replace h := h.2 c
          refine e_aload_n (dx D_l_seekTwo 39 rfl) rfl ?_
          refine q_iconst (v := 2) (dx D_l_seekTwo 40 rfl) (by decide) ?_
          refine e_putI (dx D_l_seekTwo 41 rfl) fp_RX3_23 rfl rfl ?_
          refine e_aload_n (dx D_l_seekTwo 42 rfl) rfl ?_
          refine e_iload_n (dx D_l_seekTwo 43 rfl) rfl ?_
          refine e_putI (dx D_l_seekTwo 44 rfl) fp_RX3_27 rfl rfl ?_
          refine e_aload_n (dx D_l_seekTwo 45 rfl) rfl ?_
          refine e_iload (dx D_l_seekTwo 46 rfl) rfl ?_
          refine e_putI (dx D_l_seekTwo 47 rfl) fp_RX3_30 rfl rfl ?_
          exact e_vret (dx D_l_seekTwo 48 rfl) rfl ⟨rfl, h⟩
      · replace h := h.1 c
        refine e_goto (tgt := 88) (dx D_l_seekTwo 22 rfl) (by decide) ?_
        refine q_iinc (d := 1) (L' := [some (.ref 20), some (.int x1), some (.int (x2 + 1)), some (.int (x2 / 8)), some (.int (x2 - x2 / 8 * 8)), none]) (dx D_l_seekTwo 49 rfl) rfl (by decide) (by decide) rfl ?_
        refine e_goto (tgt := 2) (dx D_l_seekTwo 50 rfl) (by decide) ?_
        exact Wp.mask [true, true, true, false, false, false] h
abbrev Cl_seek (x1 : Int32) (g : Sg) (Q : Sg → Prop) : Prop := Cv Ml_seek [.ref 20, .int x1] g Q
abbrev Hl_seek_25 (x1 : Int32) (x2 : Int32) (x3 : Int32) (g : Sg) (Q : Sg → Prop) : Prop := Hv Ml_seek 25 [some (.ref 20), some (.int x1), some (.int x2), some (.int x3)] [] g Q
set_option maxRecDepth 20000 in
theorem Vl_seek {x1 : Int32} {g : Sg} {Q : Sg → Prop} (h : vp_in (g 11 6) 17 ∧ Hl_seek_25 x1 (g 14 (g 11 6).toNatClampNeg) 0 (sgU (sgU (sgU g 20 3 (-1)) 20 4 (-1)) 20 5 (-1)) Q) : Cl_seek x1 g Q := by
  refine Cl.of 2 pl_X3 rfl ?_
  refine e_aload_n (dx D_l_seek 0 rfl) rfl ?_
  refine q_iconst (v := (-1)) (dx D_l_seek 1 rfl) (by decide) ?_
  refine e_putI (dx D_l_seek 2 rfl) fp_RX3_23 rfl rfl ?_
  refine e_aload_n (dx D_l_seek 3 rfl) rfl ?_
  refine q_iconst (v := (-1)) (dx D_l_seek 4 rfl) (by decide) ?_
  refine e_putI (dx D_l_seek 5 rfl) fp_RX3_27 rfl rfl ?_
  refine e_aload_n (dx D_l_seek 6 rfl) rfl ?_
  refine q_iconst (v := (-1)) (dx D_l_seek 7 rfl) (by decide) ?_
  refine e_putI (dx D_l_seek 8 rfl) fp_RX3_30 rfl rfl ?_
  refine e_aload_n (dx D_l_seek 9 rfl) rfl ?_
  refine e_getR (dx D_l_seek 10 rfl) fl_RX3_15 rfl rfl ?_
  obtain ⟨hb1, h⟩ := h
  refine e_callVi (Q1 := fun r g' => (g 14 (g 11 6).toNatClampNeg) = r ∧ (sgU (sgU (sgU g 20 3 (-1)) 20 4 (-1)) 20 5 (-1)) = g') (rest := []) [] (dx D_l_seek 11 rfl) ln_l_seek_33 rfl rfl rfl (Nat.le_of_ble_eq_true rfl) (Ib_lyingNow hb1 ⟨rfl, rfl⟩) (fun r g' hh => ?_)
  obtain ⟨rfl, rfl⟩ := hh
  refine q_istore_n (L' := [some (.ref 20), some (.int x1), some (.int (g 14 (g 11 6).toNatClampNeg)), none]) (dx D_l_seek 12 rfl) (by decide) rfl ?_
  refine q_iconst (v := 0) (dx D_l_seek 13 rfl) (by decide) ?_
  refine q_istore_n (L' := [some (.ref 20), some (.int x1), some (.int (g 14 (g 11 6).toNatClampNeg)), some (.int 0)]) (dx D_l_seek 14 rfl) (by decide) rfl ?_
  exact h
set_option maxRecDepth 20000 in
theorem Vl_seek_25 {x1 : Int32} {x2 : Int32} {x3 : Int32} {g : Sg} {Q : Sg → Prop} (h : ((8 ≤ x3 → ((((x1 &&& ((g 21 0) ^^^ (-1))) = 0) → Q (sgU g 20 3 0)) ∧ (¬ ((x1 &&& ((g 21 0) ^^^ (-1))) = 0) → Cb_loadNow g (fun g1 => Cl_lastLetIn x1 (-1) g1 (fun r3 g2 => ((r3 = (-1) → Cl_seekTwo x1 g2 (fun g4 => Q g4)) ∧ (¬ r3 = (-1) → Q (sgU (sgU g2 20 3 1) 20 4 r3)))))))) ∧ (¬ 8 ≤ x3 → Cb_joinedTo x3 x2 g (fun r6 g5 => vp_in x3 8 ∧ Hl_seek_25 x1 x2 (x3 + 1) (sgU g5 21 (x3).toNatClampNeg r6) Q)))) : Hl_seek_25 x1 x2 x3 g Q := by
  refine e_iload_n (dx D_l_seek 15 rfl) rfl ?_
  refine q_bipush (v := 8) (dx D_l_seek 16 rfl) (by decide) ?_
  refine e_icmp_ge (tgt := 52) (dx D_l_seek 17 rfl) (by decide) (fun c => ?_) (fun c => ?_)
  · replace h := h.1 c
    refine e_aload_n (dx D_l_seek 29 rfl) rfl ?_
    refine e_getR (dx D_l_seek 30 rfl) fl_RX3_9 rfl rfl ?_
    refine q_iconst (v := 0) (dx D_l_seek 31 rfl) (by decide) ?_
    refine e_iald (dx D_l_seek 32 rfl) rfl (by unfold vp_in; decide) ?_
    refine e_iload_n (dx D_l_seek 33 rfl) rfl ?_
    refine e_callSi (Q1 := fun r g' => bP ((x1 &&& ((g 21 0) ^^^ (-1))) = 0) = r ∧ g = g') (rest := []) [.int (g 21 0), .int x1] (dx D_l_seek 34 rfl) ln_l_seek_43 rfl rfl (Nat.le_of_ble_eq_true rfl) (Il_holdsAll  ⟨rfl, rfl⟩) (fun r g' hh => ?_)
    obtain ⟨rfl, rfl⟩ := hh
    refine e_if_eq (tgt := 71) (dx D_l_seek 35 rfl) (by decide) (fun c => ?_) (fun c => ?_)
    · replace h := h.2 (bP_z c)
      refine e_aload_n (dx D_l_seek 40 rfl) rfl ?_
      refine e_getR (dx D_l_seek 41 rfl) fl_RX3_15 rfl rfl ?_
      refine e_callVv (rest := []) [] (dx D_l_seek 42 rfl) ln_l_seek_47 rfl rfl rfl (Nat.le_of_ble_eq_true rfl) h (fun g1 h => ?_)
      refine e_aload_n (dx D_l_seek 43 rfl) rfl ?_
      refine e_iload_n (dx D_l_seek 44 rfl) rfl ?_
      refine q_iconst (v := (-1)) (dx D_l_seek 45 rfl) (by decide) ?_
      refine e_callVi (rest := []) [.int x1, .int (-1)] (dx D_l_seek 46 rfl) ln_l_seek_50 rfl rfl rfl (Nat.le_of_ble_eq_true rfl) h (fun r3 g2 h => ?_)
      refine q_istore_n (L' := [some (.ref 20), some (.int x1), some (.int x2), some (.int r3)]) (dx D_l_seek 47 rfl) (by decide) rfl ?_
      refine e_iload_n (dx D_l_seek 48 rfl) rfl ?_
      refine q_iconst (v := (-1)) (dx D_l_seek 49 rfl) (by decide) ?_
      refine e_icmp_eq (tgt := 101) (dx D_l_seek 50 rfl) (by decide) (fun c => ?_) (fun c => ?_)
      · replace h := h.1 c
        refine e_aload_n (dx D_l_seek 58 rfl) rfl ?_
        refine e_iload_n (dx D_l_seek 59 rfl) rfl ?_
        refine e_callVv (rest := []) [.int x1] (dx D_l_seek 60 rfl) ln_l_seek_53 rfl rfl rfl (Nat.le_of_ble_eq_true rfl) h (fun g4 h => ?_)
        exact e_vret (dx D_l_seek 61 rfl) rfl ⟨rfl, h⟩
      · replace h := h.2 c
        refine e_aload_n (dx D_l_seek 51 rfl) rfl ?_
        refine q_iconst (v := 1) (dx D_l_seek 52 rfl) (by decide) ?_
        refine e_putI (dx D_l_seek 53 rfl) fp_RX3_23 rfl rfl ?_
        refine e_aload_n (dx D_l_seek 54 rfl) rfl ?_
        refine e_iload_n (dx D_l_seek 55 rfl) rfl ?_
        refine e_putI (dx D_l_seek 56 rfl) fp_RX3_27 rfl rfl ?_
        exact e_vret (dx D_l_seek 57 rfl) rfl ⟨rfl, h⟩
    · replace h := h.1 (bP_n c)
      refine e_aload_n (dx D_l_seek 36 rfl) rfl ?_
      refine q_iconst (v := 0) (dx D_l_seek 37 rfl) (by decide) ?_
      refine e_putI (dx D_l_seek 38 rfl) fp_RX3_23 rfl rfl ?_
      exact e_vret (dx D_l_seek 39 rfl) rfl ⟨rfl, h⟩
  · replace h := h.2 c
    refine e_aload_n (dx D_l_seek 18 rfl) rfl ?_
    refine e_getR (dx D_l_seek 19 rfl) fl_RX3_9 rfl rfl ?_
    refine e_iload_n (dx D_l_seek 20 rfl) rfl ?_
    refine e_aload_n (dx D_l_seek 21 rfl) rfl ?_
    refine e_getR (dx D_l_seek 22 rfl) fl_RX3_15 rfl rfl ?_
    refine e_iload_n (dx D_l_seek 23 rfl) rfl ?_
    refine e_iload_n (dx D_l_seek 24 rfl) rfl ?_
    refine e_callVi (rest := [.int x3, .ref 21]) [.int x3, .int x2] (dx D_l_seek 25 rfl) ln_l_seek_39 rfl rfl rfl (Nat.le_of_ble_eq_true rfl) h (fun r6 g5 h => ?_)
    obtain ⟨hb7, h⟩ := h
    refine e_iast (dx D_l_seek 26 rfl) rfl hb7 ?_
    refine q_iinc (d := 1) (L' := [some (.ref 20), some (.int x1), some (.int x2), some (.int (x3 + 1))]) (dx D_l_seek 27 rfl) rfl (by decide) (by decide) rfl ?_
    refine e_goto (tgt := 25) (dx D_l_seek 28 rfl) (by decide) ?_
    exact h
abbrev Cp_fits (x1 : Int32) (g : Sg) (Q : Int32 → Sg → Prop) : Prop := Ci Mp_fits [.ref 1, .int x1] g Q
set_option maxRecDepth 20000 in
theorem Vp_fits {x1 : Int32} {g : Sg} {Q : Int32 → Sg → Prop} (h : vp_in x1 79 ∧ ((((x1 - x1 / 5 * 5)).toInt < 0 ∨ 3 < ((x1 - x1 / 5 * 5)).toInt → (((g 2 (x1).toNatClampNeg) = 59 → Q 1 g) ∧ (¬ (g 2 (x1).toNatClampNeg) = 59 → Q 0 g))) ∧ ((x1 - x1 / 5 * 5) = 0 → bP (97 ≤ (g 2 (x1).toNatClampNeg) ∧ (g 2 (x1).toNatClampNeg) ≤ 104) &&& 1 = bP (97 ≤ (g 2 (x1).toNatClampNeg) ∧ (g 2 (x1).toNatClampNeg) ≤ 104) ∧ Q (bP (97 ≤ (g 2 (x1).toNatClampNeg) ∧ (g 2 (x1).toNatClampNeg) ≤ 104)) g) ∧ ((x1 - x1 / 5 * 5) = 1 → (((97 ≤ (g 2 (x1).toNatClampNeg) ∧ (g 2 (x1).toNatClampNeg) ≤ 104) → vp_in (x1 - 1) 79 ∧ (((g 2 (x1).toNatClampNeg) = (g 2 (x1 - 1).toNatClampNeg) → Q 0 g) ∧ (¬ (g 2 (x1).toNatClampNeg) = (g 2 (x1 - 1).toNatClampNeg) → Q 1 g))) ∧ (¬ (97 ≤ (g 2 (x1).toNatClampNeg) ∧ (g 2 (x1).toNatClampNeg) ≤ 104) → Q 0 g))) ∧ ((x1 - x1 / 5 * 5) = 2 → bP (49 ≤ (g 2 (x1).toNatClampNeg) ∧ (g 2 (x1).toNatClampNeg) ≤ 57) &&& 1 = bP (49 ≤ (g 2 (x1).toNatClampNeg) ∧ (g 2 (x1).toNatClampNeg) ≤ 57) ∧ Q (bP (49 ≤ (g 2 (x1).toNatClampNeg) ∧ (g 2 (x1).toNatClampNeg) ≤ 57)) g) ∧ ((x1 - x1 / 5 * 5) = 3 → bP (48 ≤ (g 2 (x1).toNatClampNeg) ∧ (g 2 (x1).toNatClampNeg) ≤ 57) &&& 1 = bP (48 ≤ (g 2 (x1).toNatClampNeg) ∧ (g 2 (x1).toNatClampNeg) ≤ 57) ∧ Q (bP (48 ≤ (g 2 (x1).toNatClampNeg) ∧ (g 2 (x1).toNatClampNeg) ≤ 57)) g))) : Cp_fits x1 g Q := by
  refine Cl.of 1 pl_X4 rfl ?_
  refine e_aload_n (dx D_p_fits 0 rfl) rfl ?_
  refine e_getR (dx D_p_fits 1 rfl) fl_RX4_9 rfl rfl ?_
  refine e_iload_n (dx D_p_fits 2 rfl) rfl ?_
  obtain ⟨hb1, h⟩ := h
  refine e_iald (dx D_p_fits 3 rfl) rfl hb1 ?_
  refine q_istore_n (L' := [some (.ref 1), some (.int x1), some (.int (g 2 (x1).toNatClampNeg))]) (dx D_p_fits 4 rfl) (by decide) rfl ?_
  refine e_iload_n (dx D_p_fits 5 rfl) rfl ?_
  refine q_iconst (v := 5) (dx D_p_fits 6 rfl) (by decide) ?_
  refine e_irem (dx D_p_fits 7 rfl) (by decide) ?_
  refine q_tbl [40, 49, 78, 87] 96 (dx D_p_fits 8 rfl) (by decide) (by decide) (by decide) (fun c => ?_) (fun i t ht c => ?_)
  · replace h := h.1 c
    refine e_iload_n (dx D_p_fits 41 rfl) rfl ?_
    refine q_bipush (v := 59) (dx D_p_fits 42 rfl) (by decide) ?_
    refine e_icmp_ne (tgt := 106) (dx D_p_fits 43 rfl) (by decide) (fun c => ?_) (fun c => ?_)
    · replace h := h.2 c
      refine q_iconst (v := 0) (dx D_p_fits 46 rfl) (by decide) ?_
      exact e_iret (dx D_p_fits 47 rfl) rfl (by decide) ⟨_, rfl, h⟩
    · replace h := h.1 c
      refine q_iconst (v := 1) (dx D_p_fits 44 rfl) (by decide) ?_
      refine e_goto (tgt := 107) (dx D_p_fits 45 rfl) (by decide) ?_
      exact e_iret (dx D_p_fits 47 rfl) rfl (by decide) ⟨_, rfl, h⟩
  · match i, ht, c with
    | 0, ht, c =>
      cases ht; replace h := h.2.1 (tb_eq c (by decide))
      refine e_iload_n (dx D_p_fits 9 rfl) rfl ?_
      refine q_bipush (v := 97) (dx D_p_fits 10 rfl) (by decide) ?_
      refine q_bipush (v := 104) (dx D_p_fits 11 rfl) (by decide) ?_
      refine e_callSNi (Q1 := fun r g' => bP (97 ≤ (g 2 (x1).toNatClampNeg) ∧ (g 2 (x1).toNatClampNeg) ≤ 104) = r ∧ g = g') (rest := []) [.int (g 2 (x1).toNatClampNeg), .int 97, .int 104] (dx D_p_fits 12 rfl) ln_p_fits_57 rfl rfl (Nat.le_of_ble_eq_true rfl) (Ix_within  ⟨rfl, rfl⟩) (fun r g' hh => ?_)
      obtain ⟨rfl, rfl⟩ := hh
      obtain ⟨hb2, h⟩ := h
      exact e_iret (dx D_p_fits 13 rfl) rfl (nb1 hb2) ⟨_, rfl, h⟩
    | 1, ht, c =>
      cases ht; replace h := h.2.2.1 (tb_eq c (by decide))
      refine e_iload_n (dx D_p_fits 14 rfl) rfl ?_
      refine q_bipush (v := 97) (dx D_p_fits 15 rfl) (by decide) ?_
      refine q_bipush (v := 104) (dx D_p_fits 16 rfl) (by decide) ?_
      refine e_callSNi (Q1 := fun r g' => bP (97 ≤ (g 2 (x1).toNatClampNeg) ∧ (g 2 (x1).toNatClampNeg) ≤ 104) = r ∧ g = g') (rest := []) [.int (g 2 (x1).toNatClampNeg), .int 97, .int 104] (dx D_p_fits 17 rfl) ln_p_fits_57 rfl rfl (Nat.le_of_ble_eq_true rfl) (Ix_within  ⟨rfl, rfl⟩) (fun r g' hh => ?_)
      obtain ⟨rfl, rfl⟩ := hh
      refine e_if_eq (tgt := 76) (dx D_p_fits 18 rfl) (by decide) (fun c => ?_) (fun c => ?_)
      · replace h := h.2 (bP_z c)
        refine q_iconst (v := 0) (dx D_p_fits 29 rfl) (by decide) ?_
        exact e_iret (dx D_p_fits 30 rfl) rfl (by decide) ⟨_, rfl, h⟩
      · replace h := h.1 (bP_n c)
        refine e_iload_n (dx D_p_fits 19 rfl) rfl ?_
        refine e_aload_n (dx D_p_fits 20 rfl) rfl ?_
        refine e_getR (dx D_p_fits 21 rfl) fl_RX4_9 rfl rfl ?_
        refine e_iload_n (dx D_p_fits 22 rfl) rfl ?_
        refine q_iconst (v := 1) (dx D_p_fits 23 rfl) (by decide) ?_
        refine e_isub (dx D_p_fits 24 rfl) ?_
        obtain ⟨hb3, h⟩ := h
        refine e_iald (dx D_p_fits 25 rfl) rfl hb3 ?_
        refine e_icmp_eq (tgt := 76) (dx D_p_fits 26 rfl) (by decide) (fun c => ?_) (fun c => ?_)
        · replace h := h.1 c
          refine q_iconst (v := 0) (dx D_p_fits 29 rfl) (by decide) ?_
          exact e_iret (dx D_p_fits 30 rfl) rfl (by decide) ⟨_, rfl, h⟩
        · replace h := h.2 c
          refine q_iconst (v := 1) (dx D_p_fits 27 rfl) (by decide) ?_
          refine e_goto (tgt := 77) (dx D_p_fits 28 rfl) (by decide) ?_
          exact e_iret (dx D_p_fits 30 rfl) rfl (by decide) ⟨_, rfl, h⟩
    | 2, ht, c =>
      cases ht; replace h := h.2.2.2.1 (tb_eq c (by decide))
      refine e_iload_n (dx D_p_fits 31 rfl) rfl ?_
      refine q_bipush (v := 49) (dx D_p_fits 32 rfl) (by decide) ?_
      refine q_bipush (v := 57) (dx D_p_fits 33 rfl) (by decide) ?_
      refine e_callSNi (Q1 := fun r g' => bP (49 ≤ (g 2 (x1).toNatClampNeg) ∧ (g 2 (x1).toNatClampNeg) ≤ 57) = r ∧ g = g') (rest := []) [.int (g 2 (x1).toNatClampNeg), .int 49, .int 57] (dx D_p_fits 34 rfl) ln_p_fits_57 rfl rfl (Nat.le_of_ble_eq_true rfl) (Ix_within  ⟨rfl, rfl⟩) (fun r g' hh => ?_)
      obtain ⟨rfl, rfl⟩ := hh
      obtain ⟨hb4, h⟩ := h
      exact e_iret (dx D_p_fits 35 rfl) rfl (nb1 hb4) ⟨_, rfl, h⟩
    | 3, ht, c =>
      cases ht; replace h := h.2.2.2.2 (tb_eq c (by decide))
      refine e_iload_n (dx D_p_fits 36 rfl) rfl ?_
      refine q_bipush (v := 48) (dx D_p_fits 37 rfl) (by decide) ?_
      refine q_bipush (v := 57) (dx D_p_fits 38 rfl) (by decide) ?_
      refine e_callSNi (Q1 := fun r g' => bP (48 ≤ (g 2 (x1).toNatClampNeg) ∧ (g 2 (x1).toNatClampNeg) ≤ 57) = r ∧ g = g') (rest := []) [.int (g 2 (x1).toNatClampNeg), .int 48, .int 57] (dx D_p_fits 39 rfl) ln_p_fits_57 rfl rfl (Nat.le_of_ble_eq_true rfl) (Ix_within  ⟨rfl, rfl⟩) (fun r g' hh => ?_)
      obtain ⟨rfl, rfl⟩ := hh
      obtain ⟨hb5, h⟩ := h
      exact e_iret (dx D_p_fits 40 rfl) rfl (nb1 hb5) ⟨_, rfl, h⟩
    | n + 4, ht, c => simp at ht
abbrev Cp_takeUp (x1 : Int32) (g : Sg) (Q : Sg → Prop) : Prop := Cv Mp_takeUp [.ref 1, .int x1] g Q
set_option maxRecDepth 20000 in
theorem Vp_takeUp {x1 : Int32} {g : Sg} {Q : Sg → Prop} (h : (((0 ≤ x1 ∧ x1 ≤ 15) → ((((x1 * 5) + 3) < 79 → vp_in (x1 * 5) 79 ∧ vp_in x1 16 ∧ vp_in ((x1 * 5) + 1) 79 ∧ vp_in x1 16 ∧ vp_in ((x1 * 5) + 2) 79 ∧ vp_in x1 16 ∧ vp_in ((x1 * 5) + 3) 79 ∧ vp_in x1 16 ∧ Q (sgU (sgU (sgU (sgU g 3 (x1).toNatClampNeg ((g 2 (x1 * 5).toNatClampNeg) - 97)) 4 (x1).toNatClampNeg ((g 2 ((x1 * 5) + 1).toNatClampNeg) - 97)) 5 (x1).toNatClampNeg ((g 2 ((x1 * 5) + 2).toNatClampNeg) - 48)) 6 (x1).toNatClampNeg ((g 2 ((x1 * 5) + 3).toNatClampNeg) - 48))) ∧ (¬ ((x1 * 5) + 3) < 79 → Q g))) ∧ (¬ (0 ≤ x1 ∧ x1 ≤ 15) → Q g))) : Cp_takeUp x1 g Q := by
  refine Cl.of 1 pl_X4 rfl ?_
  refine e_iload_n (dx D_p_takeUp 0 rfl) rfl ?_
  refine q_iconst (v := 5) (dx D_p_takeUp 1 rfl) (by decide) ?_
  refine e_imul (dx D_p_takeUp 2 rfl) ?_
  refine q_istore_n (L' := [some (.ref 1), some (.int x1), some (.int (x1 * 5))]) (dx D_p_takeUp 3 rfl) (by decide) rfl ?_
  refine e_iload_n (dx D_p_takeUp 4 rfl) rfl ?_
  refine q_iconst (v := 0) (dx D_p_takeUp 5 rfl) (by decide) ?_
  refine q_bipush (v := 15) (dx D_p_takeUp 6 rfl) (by decide) ?_
  refine e_callSNi (Q1 := fun r g' => bP (0 ≤ x1 ∧ x1 ≤ 15) = r ∧ g = g') (rest := []) [.int x1, .int 0, .int 15] (dx D_p_takeUp 7 rfl) ln_p_takeUp_57 rfl rfl (Nat.le_of_ble_eq_true rfl) (Ix_within  ⟨rfl, rfl⟩) (fun r g' hh => ?_)
  obtain ⟨rfl, rfl⟩ := hh
  refine e_if_eq (tgt := 22) (dx D_p_takeUp 8 rfl) (by decide) (fun c => ?_) (fun c => ?_)
  · replace h := h.2 (bP_z c)
    exact e_vret (dx D_p_takeUp 14 rfl) rfl ⟨rfl, h⟩
  · replace h := h.1 (bP_n c)
    refine e_iload_n (dx D_p_takeUp 9 rfl) rfl ?_
    refine q_iconst (v := 3) (dx D_p_takeUp 10 rfl) (by decide) ?_
    refine e_iadd (dx D_p_takeUp 11 rfl) ?_
    refine q_bipush (v := 79) (dx D_p_takeUp 12 rfl) (by decide) ?_
    refine e_icmp_lt (tgt := 23) (dx D_p_takeUp 13 rfl) (by decide) (fun c => ?_) (fun c => ?_)
    · replace h := h.1 c
      refine e_aload_n (dx D_p_takeUp 15 rfl) rfl ?_
      refine e_getR (dx D_p_takeUp 16 rfl) fl_RX4_15 rfl rfl ?_
      refine e_iload_n (dx D_p_takeUp 17 rfl) rfl ?_
      refine e_aload_n (dx D_p_takeUp 18 rfl) rfl ?_
      refine e_getR (dx D_p_takeUp 19 rfl) fl_RX4_9 rfl rfl ?_
      refine e_iload_n (dx D_p_takeUp 20 rfl) rfl ?_
      obtain ⟨hb1, h⟩ := h
      refine e_iald (dx D_p_takeUp 21 rfl) rfl hb1 ?_
      refine q_bipush (v := 97) (dx D_p_takeUp 22 rfl) (by decide) ?_
      refine e_isub (dx D_p_takeUp 23 rfl) ?_
      obtain ⟨hb2, h⟩ := h
      refine e_iast (dx D_p_takeUp 24 rfl) rfl hb2 ?_
      refine e_aload_n (dx D_p_takeUp 25 rfl) rfl ?_
      refine e_getR (dx D_p_takeUp 26 rfl) fl_RX4_18 rfl rfl ?_
      refine e_iload_n (dx D_p_takeUp 27 rfl) rfl ?_
      refine e_aload_n (dx D_p_takeUp 28 rfl) rfl ?_
      refine e_getR (dx D_p_takeUp 29 rfl) fl_RX4_9 rfl rfl ?_
      refine e_iload_n (dx D_p_takeUp 30 rfl) rfl ?_
      refine q_iconst (v := 1) (dx D_p_takeUp 31 rfl) (by decide) ?_
      refine e_iadd (dx D_p_takeUp 32 rfl) ?_
      obtain ⟨hb3, h⟩ := h
      refine e_iald (dx D_p_takeUp 33 rfl) rfl hb3 ?_
      refine q_bipush (v := 97) (dx D_p_takeUp 34 rfl) (by decide) ?_
      refine e_isub (dx D_p_takeUp 35 rfl) ?_
      obtain ⟨hb4, h⟩ := h
      refine e_iast (dx D_p_takeUp 36 rfl) rfl hb4 ?_
      refine e_aload_n (dx D_p_takeUp 37 rfl) rfl ?_
      refine e_getR (dx D_p_takeUp 38 rfl) fl_RX4_21 rfl rfl ?_
      refine e_iload_n (dx D_p_takeUp 39 rfl) rfl ?_
      refine e_aload_n (dx D_p_takeUp 40 rfl) rfl ?_
      refine e_getR (dx D_p_takeUp 41 rfl) fl_RX4_9 rfl rfl ?_
      refine e_iload_n (dx D_p_takeUp 42 rfl) rfl ?_
      refine q_iconst (v := 2) (dx D_p_takeUp 43 rfl) (by decide) ?_
      refine e_iadd (dx D_p_takeUp 44 rfl) ?_
      obtain ⟨hb5, h⟩ := h
      refine e_iald (dx D_p_takeUp 45 rfl) rfl hb5 ?_
      refine q_bipush (v := 48) (dx D_p_takeUp 46 rfl) (by decide) ?_
      refine e_isub (dx D_p_takeUp 47 rfl) ?_
      obtain ⟨hb6, h⟩ := h
      refine e_iast (dx D_p_takeUp 48 rfl) rfl hb6 ?_
      refine e_aload_n (dx D_p_takeUp 49 rfl) rfl ?_
      refine e_getR (dx D_p_takeUp 50 rfl) fl_RX4_24 rfl rfl ?_
      refine e_iload_n (dx D_p_takeUp 51 rfl) rfl ?_
      refine e_aload_n (dx D_p_takeUp 52 rfl) rfl ?_
      refine e_getR (dx D_p_takeUp 53 rfl) fl_RX4_9 rfl rfl ?_
      refine e_iload_n (dx D_p_takeUp 54 rfl) rfl ?_
      refine q_iconst (v := 3) (dx D_p_takeUp 55 rfl) (by decide) ?_
      refine e_iadd (dx D_p_takeUp 56 rfl) ?_
      obtain ⟨hb7, h⟩ := h
      refine e_iald (dx D_p_takeUp 57 rfl) rfl hb7 ?_
      refine q_bipush (v := 48) (dx D_p_takeUp 58 rfl) (by decide) ?_
      refine e_isub (dx D_p_takeUp 59 rfl) ?_
      obtain ⟨hb8, h⟩ := h
      refine e_iast (dx D_p_takeUp 60 rfl) rfl hb8 ?_
      exact e_vret (dx D_p_takeUp 61 rfl) rfl ⟨rfl, h⟩
    · replace h := h.2 c
      exact e_vret (dx D_p_takeUp 14 rfl) rfl ⟨rfl, h⟩
abbrev Cp_settle (g : Sg) (Q : Sg → Prop) : Prop := Cv Mp_settle [.ref 1] g Q
set_option maxRecDepth 20000 in
theorem Vp_settle {g : Sg} {Q : Sg → Prop} (h : (((g 1 5) = 0 → (((g 1 6) = (-1) → (((g 1 6) = (-1) → Q (sgU (sgU g 1 7 (g 1 6)) 1 8 (((g 1 5) + 1) / 5))) ∧ (¬ (g 1 6) = (-1) → Q (sgU (sgU g 1 7 (g 1 6)) 1 8 0)))) ∧ (¬ (g 1 6) = (-1) → (((g 1 6) = (-1) → Q (sgU (sgU g 1 7 (g 1 6)) 1 8 (((g 1 5) + 1) / 5))) ∧ (¬ (g 1 6) = (-1) → Q (sgU (sgU g 1 7 (g 1 6)) 1 8 0)))))) ∧ (¬ (g 1 5) = 0 → ((((g 1 5) - (g 1 5) / 5 * 5) = 4 → (((g 1 6) = (-1) → (((g 1 6) = (-1) → Q (sgU (sgU g 1 7 (g 1 6)) 1 8 (((g 1 5) + 1) / 5))) ∧ (¬ (g 1 6) = (-1) → Q (sgU (sgU g 1 7 (g 1 6)) 1 8 0)))) ∧ (¬ (g 1 6) = (-1) → (((g 1 6) = (-1) → Q (sgU (sgU g 1 7 (g 1 6)) 1 8 (((g 1 5) + 1) / 5))) ∧ (¬ (g 1 6) = (-1) → Q (sgU (sgU g 1 7 (g 1 6)) 1 8 0)))))) ∧ (¬ ((g 1 5) - (g 1 5) / 5 * 5) = 4 → (((g 1 6) = (-1) → (((g 1 5) = (-1) → Q (sgU (sgU g 1 7 (g 1 5)) 1 8 (((g 1 5) + 1) / 5))) ∧ (¬ (g 1 5) = (-1) → Q (sgU (sgU g 1 7 (g 1 5)) 1 8 0)))) ∧ (¬ (g 1 6) = (-1) → (((g 1 6) = (-1) → Q (sgU (sgU g 1 7 (g 1 6)) 1 8 (((g 1 5) + 1) / 5))) ∧ (¬ (g 1 6) = (-1) → Q (sgU (sgU g 1 7 (g 1 6)) 1 8 0)))))))))) : Cp_settle g Q := by
  refine Cl.of 1 pl_X4 rfl ?_
  refine e_aload_n (dx D_p_settle 0 rfl) rfl ?_
  refine e_getI (dx D_p_settle 1 rfl) fl_RX4_37 rfl rfl ?_
  refine e_if_eq (tgt := 17) (dx D_p_settle 2 rfl) (by decide) (fun c => ?_) (fun c => ?_)
  · replace h := h.1 c
    refine q_iconst (v := 1) (dx D_p_settle 9 rfl) (by decide) ?_
    refine e_goto (tgt := 22) (dx D_p_settle 10 rfl) (by decide) ?_
    refine q_istore_n (L' := [some (.ref 1), some (.int 1)]) (dx D_p_settle 12 rfl) (by decide) rfl ?_
    refine e_aload_n (dx D_p_settle 13 rfl) rfl ?_
    refine e_aload_n (dx D_p_settle 14 rfl) rfl ?_
    refine e_getI (dx D_p_settle 15 rfl) fl_RX4_27 rfl rfl ?_
    refine q_iconst (v := (-1)) (dx D_p_settle 16 rfl) (by decide) ?_
    refine e_icmp_ne (tgt := 43) (dx D_p_settle 17 rfl) (by decide) (fun c => ?_) (fun c => ?_)
    · replace h := h.2 c
      refine e_aload_n (dx D_p_settle 23 rfl) rfl ?_
      refine e_getI (dx D_p_settle 24 rfl) fl_RX4_27 rfl rfl ?_
      refine e_putI (dx D_p_settle 25 rfl) fp_RX4_31 rfl rfl ?_
      refine e_aload_n (dx D_p_settle 26 rfl) rfl ?_
      refine e_aload_n (dx D_p_settle 27 rfl) rfl ?_
      refine e_getI (dx D_p_settle 28 rfl) fl_RX4_31 rfl rfl ?_
      refine q_iconst (v := (-1)) (dx D_p_settle 29 rfl) (by decide) ?_
      refine e_icmp_ne (tgt := 70) (dx D_p_settle 30 rfl) (by decide) (fun c => ?_) (fun c => ?_)
      · replace h := h.2 c
        refine q_iconst (v := 0) (dx D_p_settle 38 rfl) (by decide) ?_
        refine e_putI (dx D_p_settle 39 rfl) fp_RX4_61 rfl rfl ?_
        exact e_vret (dx D_p_settle 40 rfl) rfl ⟨rfl, h⟩
      · replace h := h.1 c
        refine e_aload_n (dx D_p_settle 31 rfl) rfl ?_
        refine e_getI (dx D_p_settle 32 rfl) fl_RX4_37 rfl rfl ?_
        refine q_iconst (v := 1) (dx D_p_settle 33 rfl) (by decide) ?_
        refine e_iadd (dx D_p_settle 34 rfl) ?_
        refine q_iconst (v := 5) (dx D_p_settle 35 rfl) (by decide) ?_
        refine e_idiv (dx D_p_settle 36 rfl) (by decide) ?_
        refine e_goto (tgt := 71) (dx D_p_settle 37 rfl) (by decide) ?_
        refine e_putI (dx D_p_settle 39 rfl) fp_RX4_61 rfl rfl ?_
        exact e_vret (dx D_p_settle 40 rfl) rfl ⟨rfl, h⟩
    · replace h := h.1 c
      refine e_iload_n (dx D_p_settle 18 rfl) rfl ?_
      refine e_if_ne (tgt := 43) (dx D_p_settle 19 rfl) (by decide) (fun c => ?_) (fun c => ?_)
      · skip
        refine e_aload_n (dx D_p_settle 23 rfl) rfl ?_
        refine e_getI (dx D_p_settle 24 rfl) fl_RX4_27 rfl rfl ?_
        refine e_putI (dx D_p_settle 25 rfl) fp_RX4_31 rfl rfl ?_
        refine e_aload_n (dx D_p_settle 26 rfl) rfl ?_
        refine e_aload_n (dx D_p_settle 27 rfl) rfl ?_
        refine e_getI (dx D_p_settle 28 rfl) fl_RX4_31 rfl rfl ?_
        refine q_iconst (v := (-1)) (dx D_p_settle 29 rfl) (by decide) ?_
        refine e_icmp_ne (tgt := 70) (dx D_p_settle 30 rfl) (by decide) (fun c => ?_) (fun c => ?_)
        · replace h := h.2 c
          refine q_iconst (v := 0) (dx D_p_settle 38 rfl) (by decide) ?_
          refine e_putI (dx D_p_settle 39 rfl) fp_RX4_61 rfl rfl ?_
          exact e_vret (dx D_p_settle 40 rfl) rfl ⟨rfl, h⟩
        · replace h := h.1 c
          refine e_aload_n (dx D_p_settle 31 rfl) rfl ?_
          refine e_getI (dx D_p_settle 32 rfl) fl_RX4_37 rfl rfl ?_
          refine q_iconst (v := 1) (dx D_p_settle 33 rfl) (by decide) ?_
          refine e_iadd (dx D_p_settle 34 rfl) ?_
          refine q_iconst (v := 5) (dx D_p_settle 35 rfl) (by decide) ?_
          refine e_idiv (dx D_p_settle 36 rfl) (by decide) ?_
          refine e_goto (tgt := 71) (dx D_p_settle 37 rfl) (by decide) ?_
          refine e_putI (dx D_p_settle 39 rfl) fp_RX4_61 rfl rfl ?_
          exact e_vret (dx D_p_settle 40 rfl) rfl ⟨rfl, h⟩
      · exact absurd c (by decide)
  · replace h := h.2 c
    refine e_aload_n (dx D_p_settle 3 rfl) rfl ?_
    refine e_getI (dx D_p_settle 4 rfl) fl_RX4_37 rfl rfl ?_
    refine q_iconst (v := 5) (dx D_p_settle 5 rfl) (by decide) ?_
    refine e_irem (dx D_p_settle 6 rfl) (by decide) ?_
    refine q_iconst (v := 4) (dx D_p_settle 7 rfl) (by decide) ?_
    refine e_icmp_ne (tgt := 21) (dx D_p_settle 8 rfl) (by decide) (fun c => ?_) (fun c => ?_)
    · replace h := h.2 c
      refine q_iconst (v := 0) (dx D_p_settle 11 rfl) (by decide) ?_
      refine q_istore_n (L' := [some (.ref 1), some (.int 0)]) (dx D_p_settle 12 rfl) (by decide) rfl ?_
      refine e_aload_n (dx D_p_settle 13 rfl) rfl ?_
      refine e_aload_n (dx D_p_settle 14 rfl) rfl ?_
      refine e_getI (dx D_p_settle 15 rfl) fl_RX4_27 rfl rfl ?_
      refine q_iconst (v := (-1)) (dx D_p_settle 16 rfl) (by decide) ?_
      refine e_icmp_ne (tgt := 43) (dx D_p_settle 17 rfl) (by decide) (fun c => ?_) (fun c => ?_)
      · replace h := h.2 c
        refine e_aload_n (dx D_p_settle 23 rfl) rfl ?_
        refine e_getI (dx D_p_settle 24 rfl) fl_RX4_27 rfl rfl ?_
        refine e_putI (dx D_p_settle 25 rfl) fp_RX4_31 rfl rfl ?_
        refine e_aload_n (dx D_p_settle 26 rfl) rfl ?_
        refine e_aload_n (dx D_p_settle 27 rfl) rfl ?_
        refine e_getI (dx D_p_settle 28 rfl) fl_RX4_31 rfl rfl ?_
        refine q_iconst (v := (-1)) (dx D_p_settle 29 rfl) (by decide) ?_
        refine e_icmp_ne (tgt := 70) (dx D_p_settle 30 rfl) (by decide) (fun c => ?_) (fun c => ?_)
        · replace h := h.2 c
          refine q_iconst (v := 0) (dx D_p_settle 38 rfl) (by decide) ?_
          refine e_putI (dx D_p_settle 39 rfl) fp_RX4_61 rfl rfl ?_
          exact e_vret (dx D_p_settle 40 rfl) rfl ⟨rfl, h⟩
        · replace h := h.1 c
          refine e_aload_n (dx D_p_settle 31 rfl) rfl ?_
          refine e_getI (dx D_p_settle 32 rfl) fl_RX4_37 rfl rfl ?_
          refine q_iconst (v := 1) (dx D_p_settle 33 rfl) (by decide) ?_
          refine e_iadd (dx D_p_settle 34 rfl) ?_
          refine q_iconst (v := 5) (dx D_p_settle 35 rfl) (by decide) ?_
          refine e_idiv (dx D_p_settle 36 rfl) (by decide) ?_
          refine e_goto (tgt := 71) (dx D_p_settle 37 rfl) (by decide) ?_
          refine e_putI (dx D_p_settle 39 rfl) fp_RX4_61 rfl rfl ?_
          exact e_vret (dx D_p_settle 40 rfl) rfl ⟨rfl, h⟩
      · replace h := h.1 c
        refine e_iload_n (dx D_p_settle 18 rfl) rfl ?_
        refine e_if_ne (tgt := 43) (dx D_p_settle 19 rfl) (by decide) (fun c => ?_) (fun c => ?_)
        · exact absurd c (by decide)
        · skip
          refine e_aload_n (dx D_p_settle 20 rfl) rfl ?_
          refine e_getI (dx D_p_settle 21 rfl) fl_RX4_37 rfl rfl ?_
          refine e_goto (tgt := 47) (dx D_p_settle 22 rfl) (by decide) ?_
          refine e_putI (dx D_p_settle 25 rfl) fp_RX4_31 rfl rfl ?_
          refine e_aload_n (dx D_p_settle 26 rfl) rfl ?_
          refine e_aload_n (dx D_p_settle 27 rfl) rfl ?_
          refine e_getI (dx D_p_settle 28 rfl) fl_RX4_31 rfl rfl ?_
          refine q_iconst (v := (-1)) (dx D_p_settle 29 rfl) (by decide) ?_
          refine e_icmp_ne (tgt := 70) (dx D_p_settle 30 rfl) (by decide) (fun c => ?_) (fun c => ?_)
          · replace h := h.2 c
            refine q_iconst (v := 0) (dx D_p_settle 38 rfl) (by decide) ?_
            refine e_putI (dx D_p_settle 39 rfl) fp_RX4_61 rfl rfl ?_
            exact e_vret (dx D_p_settle 40 rfl) rfl ⟨rfl, h⟩
          · replace h := h.1 c
            refine e_aload_n (dx D_p_settle 31 rfl) rfl ?_
            refine e_getI (dx D_p_settle 32 rfl) fl_RX4_37 rfl rfl ?_
            refine q_iconst (v := 1) (dx D_p_settle 33 rfl) (by decide) ?_
            refine e_iadd (dx D_p_settle 34 rfl) ?_
            refine q_iconst (v := 5) (dx D_p_settle 35 rfl) (by decide) ?_
            refine e_idiv (dx D_p_settle 36 rfl) (by decide) ?_
            refine e_goto (tgt := 71) (dx D_p_settle 37 rfl) (by decide) ?_
            refine e_putI (dx D_p_settle 39 rfl) fp_RX4_61 rfl rfl ?_
            exact e_vret (dx D_p_settle 40 rfl) rfl ⟨rfl, h⟩
    · replace h := h.1 c
      refine q_iconst (v := 1) (dx D_p_settle 9 rfl) (by decide) ?_
      refine e_goto (tgt := 22) (dx D_p_settle 10 rfl) (by decide) ?_
      refine q_istore_n (L' := [some (.ref 1), some (.int 1)]) (dx D_p_settle 12 rfl) (by decide) rfl ?_
      refine e_aload_n (dx D_p_settle 13 rfl) rfl ?_
      refine e_aload_n (dx D_p_settle 14 rfl) rfl ?_
      refine e_getI (dx D_p_settle 15 rfl) fl_RX4_27 rfl rfl ?_
      refine q_iconst (v := (-1)) (dx D_p_settle 16 rfl) (by decide) ?_
      refine e_icmp_ne (tgt := 43) (dx D_p_settle 17 rfl) (by decide) (fun c => ?_) (fun c => ?_)
      · replace h := h.2 c
        refine e_aload_n (dx D_p_settle 23 rfl) rfl ?_
        refine e_getI (dx D_p_settle 24 rfl) fl_RX4_27 rfl rfl ?_
        refine e_putI (dx D_p_settle 25 rfl) fp_RX4_31 rfl rfl ?_
        refine e_aload_n (dx D_p_settle 26 rfl) rfl ?_
        refine e_aload_n (dx D_p_settle 27 rfl) rfl ?_
        refine e_getI (dx D_p_settle 28 rfl) fl_RX4_31 rfl rfl ?_
        refine q_iconst (v := (-1)) (dx D_p_settle 29 rfl) (by decide) ?_
        refine e_icmp_ne (tgt := 70) (dx D_p_settle 30 rfl) (by decide) (fun c => ?_) (fun c => ?_)
        · replace h := h.2 c
          refine q_iconst (v := 0) (dx D_p_settle 38 rfl) (by decide) ?_
          refine e_putI (dx D_p_settle 39 rfl) fp_RX4_61 rfl rfl ?_
          exact e_vret (dx D_p_settle 40 rfl) rfl ⟨rfl, h⟩
        · replace h := h.1 c
          refine e_aload_n (dx D_p_settle 31 rfl) rfl ?_
          refine e_getI (dx D_p_settle 32 rfl) fl_RX4_37 rfl rfl ?_
          refine q_iconst (v := 1) (dx D_p_settle 33 rfl) (by decide) ?_
          refine e_iadd (dx D_p_settle 34 rfl) ?_
          refine q_iconst (v := 5) (dx D_p_settle 35 rfl) (by decide) ?_
          refine e_idiv (dx D_p_settle 36 rfl) (by decide) ?_
          refine e_goto (tgt := 71) (dx D_p_settle 37 rfl) (by decide) ?_
          refine e_putI (dx D_p_settle 39 rfl) fp_RX4_61 rfl rfl ?_
          exact e_vret (dx D_p_settle 40 rfl) rfl ⟨rfl, h⟩
      · replace h := h.1 c
        refine e_iload_n (dx D_p_settle 18 rfl) rfl ?_
        refine e_if_ne (tgt := 43) (dx D_p_settle 19 rfl) (by decide) (fun c => ?_) (fun c => ?_)
        · skip
          refine e_aload_n (dx D_p_settle 23 rfl) rfl ?_
          refine e_getI (dx D_p_settle 24 rfl) fl_RX4_27 rfl rfl ?_
          refine e_putI (dx D_p_settle 25 rfl) fp_RX4_31 rfl rfl ?_
          refine e_aload_n (dx D_p_settle 26 rfl) rfl ?_
          refine e_aload_n (dx D_p_settle 27 rfl) rfl ?_
          refine e_getI (dx D_p_settle 28 rfl) fl_RX4_31 rfl rfl ?_
          refine q_iconst (v := (-1)) (dx D_p_settle 29 rfl) (by decide) ?_
          refine e_icmp_ne (tgt := 70) (dx D_p_settle 30 rfl) (by decide) (fun c => ?_) (fun c => ?_)
          · replace h := h.2 c
            refine q_iconst (v := 0) (dx D_p_settle 38 rfl) (by decide) ?_
            refine e_putI (dx D_p_settle 39 rfl) fp_RX4_61 rfl rfl ?_
            exact e_vret (dx D_p_settle 40 rfl) rfl ⟨rfl, h⟩
          · replace h := h.1 c
            refine e_aload_n (dx D_p_settle 31 rfl) rfl ?_
            refine e_getI (dx D_p_settle 32 rfl) fl_RX4_37 rfl rfl ?_
            refine q_iconst (v := 1) (dx D_p_settle 33 rfl) (by decide) ?_
            refine e_iadd (dx D_p_settle 34 rfl) ?_
            refine q_iconst (v := 5) (dx D_p_settle 35 rfl) (by decide) ?_
            refine e_idiv (dx D_p_settle 36 rfl) (by decide) ?_
            refine e_goto (tgt := 71) (dx D_p_settle 37 rfl) (by decide) ?_
            refine e_putI (dx D_p_settle 39 rfl) fp_RX4_61 rfl rfl ?_
            exact e_vret (dx D_p_settle 40 rfl) rfl ⟨rfl, h⟩
        · exact absurd c (by decide)
abbrev Cp_append (x1 : Int32) (g : Sg) (Q : Sg → Prop) : Prop := Cv Mp_append [.ref 1, .int x1] g Q
set_option maxRecDepth 20000 in
theorem Vp_append {x1 : Int32} {g : Sg} {Q : Sg → Prop} (h : (((g 1 5) < 79 → vp_in (g 1 5) 79 ∧ (((g 1 6) = (-1) → Cp_fits (g 1 5) (sgU g 2 (g 1 5).toNatClampNeg x1) (fun r7 g6 => ((r7 = 0 → (((g6 1 5) = (-1) → ((((g6 1 5) - (g6 1 5) / 5 * 5) = 3 → Cp_takeUp ((g6 1 5) / 5) (sgU g6 1 6 (g6 1 5)) (fun g14 => Cp_settle (sgU g14 1 5 ((g14 1 5) + 1)) (fun g15 => Q g15))) ∧ (¬ ((g6 1 5) - (g6 1 5) / 5 * 5) = 3 → Cp_settle (sgU (sgU g6 1 6 (g6 1 5)) 1 5 ((g6 1 5) + 1)) (fun g13 => Q g13)))) ∧ (¬ (g6 1 5) = (-1) → Cp_settle (sgU (sgU g6 1 6 (g6 1 5)) 1 5 ((g6 1 5) + 1)) (fun g12 => Q g12)))) ∧ (¬ r7 = 0 → (((g6 1 6) = (-1) → ((((g6 1 5) - (g6 1 5) / 5 * 5) = 3 → Cp_takeUp ((g6 1 5) / 5) g6 (fun g10 => Cp_settle (sgU g10 1 5 ((g10 1 5) + 1)) (fun g11 => Q g11))) ∧ (¬ ((g6 1 5) - (g6 1 5) / 5 * 5) = 3 → Cp_settle (sgU g6 1 5 ((g6 1 5) + 1)) (fun g9 => Q g9)))) ∧ (¬ (g6 1 6) = (-1) → Cp_settle (sgU g6 1 5 ((g6 1 5) + 1)) (fun g8 => Q g8))))))) ∧ (¬ (g 1 6) = (-1) → (((g 1 6) = (-1) → ((((g 1 5) - (g 1 5) / 5 * 5) = 3 → Cp_takeUp ((g 1 5) / 5) (sgU g 2 (g 1 5).toNatClampNeg x1) (fun g4 => Cp_settle (sgU g4 1 5 ((g4 1 5) + 1)) (fun g5 => Q g5))) ∧ (¬ ((g 1 5) - (g 1 5) / 5 * 5) = 3 → Cp_settle (sgU (sgU g 2 (g 1 5).toNatClampNeg x1) 1 5 ((g 1 5) + 1)) (fun g3 => Q g3)))) ∧ (¬ (g 1 6) = (-1) → Cp_settle (sgU (sgU g 2 (g 1 5).toNatClampNeg x1) 1 5 ((g 1 5) + 1)) (fun g2 => Q g2)))))) ∧ (¬ (g 1 5) < 79 → Q g))) : Cp_append x1 g Q := by
  refine Cl.of 0 pl_X4 rfl ?_
  refine e_aload_n (dx D_p_append 0 rfl) rfl ?_
  refine e_getI (dx D_p_append 1 rfl) fl_RX4_37 rfl rfl ?_
  refine q_bipush (v := 79) (dx D_p_append 2 rfl) (by decide) ?_
  refine e_icmp_lt (tgt := 10) (dx D_p_append 3 rfl) (by decide) (fun c => ?_) (fun c => ?_)
  · replace h := h.1 c
    refine e_aload_n (dx D_p_append 5 rfl) rfl ?_
    refine e_getR (dx D_p_append 6 rfl) fl_RX4_9 rfl rfl ?_
    refine e_aload_n (dx D_p_append 7 rfl) rfl ?_
    refine e_getI (dx D_p_append 8 rfl) fl_RX4_37 rfl rfl ?_
    refine e_iload_n (dx D_p_append 9 rfl) rfl ?_
    obtain ⟨hb1, h⟩ := h
    refine e_iast (dx D_p_append 10 rfl) rfl hb1 ?_
    refine e_aload_n (dx D_p_append 11 rfl) rfl ?_
    refine e_getI (dx D_p_append 12 rfl) fl_RX4_27 rfl rfl ?_
    refine q_iconst (v := (-1)) (dx D_p_append 13 rfl) (by decide) ?_
    refine e_icmp_ne (tgt := 47) (dx D_p_append 14 rfl) (by decide) (fun c => ?_) (fun c => ?_)
    · replace h := h.2 c
      refine e_aload_n (dx D_p_append 24 rfl) rfl ?_
      refine e_getI (dx D_p_append 25 rfl) fl_RX4_27 rfl rfl ?_
      refine q_iconst (v := (-1)) (dx D_p_append 26 rfl) (by decide) ?_
      refine e_icmp_ne (tgt := 75) (dx D_p_append 27 rfl) (by decide) (fun c => ?_) (fun c => ?_)
      · replace h := h.2 c
        refine e_aload_n (dx D_p_append 40 rfl) rfl ?_
        refine e_dup (dx D_p_append 41 rfl) rfl ?_
        refine e_getI (dx D_p_append 42 rfl) fl_RX4_37 rfl rfl ?_
        refine q_iconst (v := 1) (dx D_p_append 43 rfl) (by decide) ?_
        refine e_iadd (dx D_p_append 44 rfl) ?_
        refine e_putI (dx D_p_append 45 rfl) fp_RX4_37 rfl rfl ?_
        refine e_aload_n (dx D_p_append 46 rfl) rfl ?_
        refine e_callVv (rest := []) [] (dx D_p_append 47 rfl) ln_p_append_48 rfl rfl rfl (Nat.le_of_ble_eq_true rfl) h (fun g2 h => ?_)
        exact e_vret (dx D_p_append 48 rfl) rfl ⟨rfl, h⟩
      · replace h := h.1 c
        refine e_aload_n (dx D_p_append 28 rfl) rfl ?_
        refine e_getI (dx D_p_append 29 rfl) fl_RX4_37 rfl rfl ?_
        refine q_iconst (v := 5) (dx D_p_append 30 rfl) (by decide) ?_
        refine e_irem (dx D_p_append 31 rfl) (by decide) ?_
        refine q_iconst (v := 3) (dx D_p_append 32 rfl) (by decide) ?_
        refine e_icmp_ne (tgt := 75) (dx D_p_append 33 rfl) (by decide) (fun c => ?_) (fun c => ?_)
        · replace h := h.2 c
          refine e_aload_n (dx D_p_append 40 rfl) rfl ?_
          refine e_dup (dx D_p_append 41 rfl) rfl ?_
          refine e_getI (dx D_p_append 42 rfl) fl_RX4_37 rfl rfl ?_
          refine q_iconst (v := 1) (dx D_p_append 43 rfl) (by decide) ?_
          refine e_iadd (dx D_p_append 44 rfl) ?_
          refine e_putI (dx D_p_append 45 rfl) fp_RX4_37 rfl rfl ?_
          refine e_aload_n (dx D_p_append 46 rfl) rfl ?_
          refine e_callVv (rest := []) [] (dx D_p_append 47 rfl) ln_p_append_48 rfl rfl rfl (Nat.le_of_ble_eq_true rfl) h (fun g3 h => ?_)
          exact e_vret (dx D_p_append 48 rfl) rfl ⟨rfl, h⟩
        · replace h := h.1 c
          refine e_aload_n (dx D_p_append 34 rfl) rfl ?_
          refine e_aload_n (dx D_p_append 35 rfl) rfl ?_
          refine e_getI (dx D_p_append 36 rfl) fl_RX4_37 rfl rfl ?_
          refine q_iconst (v := 5) (dx D_p_append 37 rfl) (by decide) ?_
          refine e_idiv (dx D_p_append 38 rfl) (by decide) ?_
          refine e_callVv (rest := []) [.int ((g 1 5) / 5)] (dx D_p_append 39 rfl) ln_p_append_44 rfl rfl rfl (Nat.le_of_ble_eq_true rfl) h (fun g4 h => ?_)
          refine e_aload_n (dx D_p_append 40 rfl) rfl ?_
          refine e_dup (dx D_p_append 41 rfl) rfl ?_
          refine e_getI (dx D_p_append 42 rfl) fl_RX4_37 rfl rfl ?_
          refine q_iconst (v := 1) (dx D_p_append 43 rfl) (by decide) ?_
          refine e_iadd (dx D_p_append 44 rfl) ?_
          refine e_putI (dx D_p_append 45 rfl) fp_RX4_37 rfl rfl ?_
          refine e_aload_n (dx D_p_append 46 rfl) rfl ?_
          refine e_callVv (rest := []) [] (dx D_p_append 47 rfl) ln_p_append_48 rfl rfl rfl (Nat.le_of_ble_eq_true rfl) h (fun g5 h => ?_)
          exact e_vret (dx D_p_append 48 rfl) rfl ⟨rfl, h⟩
    · replace h := h.1 c
      refine e_aload_n (dx D_p_append 15 rfl) rfl ?_
      refine e_aload_n (dx D_p_append 16 rfl) rfl ?_
      refine e_getI (dx D_p_append 17 rfl) fl_RX4_37 rfl rfl ?_
      refine e_callVi (rest := []) [.int (g 1 5)] (dx D_p_append 18 rfl) ln_p_append_40 rfl rfl rfl (Nat.le_of_ble_eq_true rfl) h (fun r7 g6 h => ?_)
      refine e_if_ne (tgt := 47) (dx D_p_append 19 rfl) (by decide) (fun c => ?_) (fun c => ?_)
      · replace h := h.2 c
        refine e_aload_n (dx D_p_append 24 rfl) rfl ?_
        refine e_getI (dx D_p_append 25 rfl) fl_RX4_27 rfl rfl ?_
        refine q_iconst (v := (-1)) (dx D_p_append 26 rfl) (by decide) ?_
        refine e_icmp_ne (tgt := 75) (dx D_p_append 27 rfl) (by decide) (fun c => ?_) (fun c => ?_)
        · replace h := h.2 c
          refine e_aload_n (dx D_p_append 40 rfl) rfl ?_
          refine e_dup (dx D_p_append 41 rfl) rfl ?_
          refine e_getI (dx D_p_append 42 rfl) fl_RX4_37 rfl rfl ?_
          refine q_iconst (v := 1) (dx D_p_append 43 rfl) (by decide) ?_
          refine e_iadd (dx D_p_append 44 rfl) ?_
          refine e_putI (dx D_p_append 45 rfl) fp_RX4_37 rfl rfl ?_
          refine e_aload_n (dx D_p_append 46 rfl) rfl ?_
          refine e_callVv (rest := []) [] (dx D_p_append 47 rfl) ln_p_append_48 rfl rfl rfl (Nat.le_of_ble_eq_true rfl) h (fun g8 h => ?_)
          exact e_vret (dx D_p_append 48 rfl) rfl ⟨rfl, h⟩
        · replace h := h.1 c
          refine e_aload_n (dx D_p_append 28 rfl) rfl ?_
          refine e_getI (dx D_p_append 29 rfl) fl_RX4_37 rfl rfl ?_
          refine q_iconst (v := 5) (dx D_p_append 30 rfl) (by decide) ?_
          refine e_irem (dx D_p_append 31 rfl) (by decide) ?_
          refine q_iconst (v := 3) (dx D_p_append 32 rfl) (by decide) ?_
          refine e_icmp_ne (tgt := 75) (dx D_p_append 33 rfl) (by decide) (fun c => ?_) (fun c => ?_)
          · replace h := h.2 c
            refine e_aload_n (dx D_p_append 40 rfl) rfl ?_
            refine e_dup (dx D_p_append 41 rfl) rfl ?_
            refine e_getI (dx D_p_append 42 rfl) fl_RX4_37 rfl rfl ?_
            refine q_iconst (v := 1) (dx D_p_append 43 rfl) (by decide) ?_
            refine e_iadd (dx D_p_append 44 rfl) ?_
            refine e_putI (dx D_p_append 45 rfl) fp_RX4_37 rfl rfl ?_
            refine e_aload_n (dx D_p_append 46 rfl) rfl ?_
            refine e_callVv (rest := []) [] (dx D_p_append 47 rfl) ln_p_append_48 rfl rfl rfl (Nat.le_of_ble_eq_true rfl) h (fun g9 h => ?_)
            exact e_vret (dx D_p_append 48 rfl) rfl ⟨rfl, h⟩
          · replace h := h.1 c
            refine e_aload_n (dx D_p_append 34 rfl) rfl ?_
            refine e_aload_n (dx D_p_append 35 rfl) rfl ?_
            refine e_getI (dx D_p_append 36 rfl) fl_RX4_37 rfl rfl ?_
            refine q_iconst (v := 5) (dx D_p_append 37 rfl) (by decide) ?_
            refine e_idiv (dx D_p_append 38 rfl) (by decide) ?_
            refine e_callVv (rest := []) [.int ((g6 1 5) / 5)] (dx D_p_append 39 rfl) ln_p_append_44 rfl rfl rfl (Nat.le_of_ble_eq_true rfl) h (fun g10 h => ?_)
            refine e_aload_n (dx D_p_append 40 rfl) rfl ?_
            refine e_dup (dx D_p_append 41 rfl) rfl ?_
            refine e_getI (dx D_p_append 42 rfl) fl_RX4_37 rfl rfl ?_
            refine q_iconst (v := 1) (dx D_p_append 43 rfl) (by decide) ?_
            refine e_iadd (dx D_p_append 44 rfl) ?_
            refine e_putI (dx D_p_append 45 rfl) fp_RX4_37 rfl rfl ?_
            refine e_aload_n (dx D_p_append 46 rfl) rfl ?_
            refine e_callVv (rest := []) [] (dx D_p_append 47 rfl) ln_p_append_48 rfl rfl rfl (Nat.le_of_ble_eq_true rfl) h (fun g11 h => ?_)
            exact e_vret (dx D_p_append 48 rfl) rfl ⟨rfl, h⟩
      · replace h := h.1 c
        refine e_aload_n (dx D_p_append 20 rfl) rfl ?_
        refine e_aload_n (dx D_p_append 21 rfl) rfl ?_
        refine e_getI (dx D_p_append 22 rfl) fl_RX4_37 rfl rfl ?_
        refine e_putI (dx D_p_append 23 rfl) fp_RX4_27 rfl rfl ?_
        refine e_aload_n (dx D_p_append 24 rfl) rfl ?_
        refine e_getI (dx D_p_append 25 rfl) fl_RX4_27 rfl rfl ?_
        refine q_iconst (v := (-1)) (dx D_p_append 26 rfl) (by decide) ?_
        refine e_icmp_ne (tgt := 75) (dx D_p_append 27 rfl) (by decide) (fun c => ?_) (fun c => ?_)
        · replace h := h.2 c
          refine e_aload_n (dx D_p_append 40 rfl) rfl ?_
          refine e_dup (dx D_p_append 41 rfl) rfl ?_
          refine e_getI (dx D_p_append 42 rfl) fl_RX4_37 rfl rfl ?_
          refine q_iconst (v := 1) (dx D_p_append 43 rfl) (by decide) ?_
          refine e_iadd (dx D_p_append 44 rfl) ?_
          refine e_putI (dx D_p_append 45 rfl) fp_RX4_37 rfl rfl ?_
          refine e_aload_n (dx D_p_append 46 rfl) rfl ?_
          refine e_callVv (rest := []) [] (dx D_p_append 47 rfl) ln_p_append_48 rfl rfl rfl (Nat.le_of_ble_eq_true rfl) h (fun g12 h => ?_)
          exact e_vret (dx D_p_append 48 rfl) rfl ⟨rfl, h⟩
        · replace h := h.1 c
          refine e_aload_n (dx D_p_append 28 rfl) rfl ?_
          refine e_getI (dx D_p_append 29 rfl) fl_RX4_37 rfl rfl ?_
          refine q_iconst (v := 5) (dx D_p_append 30 rfl) (by decide) ?_
          refine e_irem (dx D_p_append 31 rfl) (by decide) ?_
          refine q_iconst (v := 3) (dx D_p_append 32 rfl) (by decide) ?_
          refine e_icmp_ne (tgt := 75) (dx D_p_append 33 rfl) (by decide) (fun c => ?_) (fun c => ?_)
          · replace h := h.2 c
            refine e_aload_n (dx D_p_append 40 rfl) rfl ?_
            refine e_dup (dx D_p_append 41 rfl) rfl ?_
            refine e_getI (dx D_p_append 42 rfl) fl_RX4_37 rfl rfl ?_
            refine q_iconst (v := 1) (dx D_p_append 43 rfl) (by decide) ?_
            refine e_iadd (dx D_p_append 44 rfl) ?_
            refine e_putI (dx D_p_append 45 rfl) fp_RX4_37 rfl rfl ?_
            refine e_aload_n (dx D_p_append 46 rfl) rfl ?_
            refine e_callVv (rest := []) [] (dx D_p_append 47 rfl) ln_p_append_48 rfl rfl rfl (Nat.le_of_ble_eq_true rfl) h (fun g13 h => ?_)
            exact e_vret (dx D_p_append 48 rfl) rfl ⟨rfl, h⟩
          · replace h := h.1 c
            refine e_aload_n (dx D_p_append 34 rfl) rfl ?_
            refine e_aload_n (dx D_p_append 35 rfl) rfl ?_
            refine e_getI (dx D_p_append 36 rfl) fl_RX4_37 rfl rfl ?_
            refine q_iconst (v := 5) (dx D_p_append 37 rfl) (by decide) ?_
            refine e_idiv (dx D_p_append 38 rfl) (by decide) ?_
            refine e_callVv (rest := []) [.int ((g6 1 5) / 5)] (dx D_p_append 39 rfl) ln_p_append_44 rfl rfl rfl (Nat.le_of_ble_eq_true rfl) h (fun g14 h => ?_)
            refine e_aload_n (dx D_p_append 40 rfl) rfl ?_
            refine e_dup (dx D_p_append 41 rfl) rfl ?_
            refine e_getI (dx D_p_append 42 rfl) fl_RX4_37 rfl rfl ?_
            refine q_iconst (v := 1) (dx D_p_append 43 rfl) (by decide) ?_
            refine e_iadd (dx D_p_append 44 rfl) ?_
            refine e_putI (dx D_p_append 45 rfl) fp_RX4_37 rfl rfl ?_
            refine e_aload_n (dx D_p_append 46 rfl) rfl ?_
            refine e_callVv (rest := []) [] (dx D_p_append 47 rfl) ln_p_append_48 rfl rfl rfl (Nat.le_of_ble_eq_true rfl) h (fun g15 h => ?_)
            exact e_vret (dx D_p_append 48 rfl) rfl ⟨rfl, h⟩
  · replace h := h.2 c
    exact e_vret (dx D_p_append 4 rfl) rfl ⟨rfl, h⟩
abbrev Cp_clear (g : Sg) (Q : Sg → Prop) : Prop := Cv Mp_clear [.ref 1] g Q
set_option maxRecDepth 20000 in
theorem Vp_clear {g : Sg} {Q : Sg → Prop} (h : Cp_settle (sgU (sgU g 1 5 0) 1 6 (-1)) (fun g1 => Q g1)) : Cp_clear g Q := by
  refine Cl.of 0 pl_X4 rfl ?_
  refine e_aload_n (dx D_p_clear 0 rfl) rfl ?_
  refine q_iconst (v := 0) (dx D_p_clear 1 rfl) (by decide) ?_
  refine e_putI (dx D_p_clear 2 rfl) fp_RX4_37 rfl rfl ?_
  refine e_aload_n (dx D_p_clear 3 rfl) rfl ?_
  refine q_iconst (v := (-1)) (dx D_p_clear 4 rfl) (by decide) ?_
  refine e_putI (dx D_p_clear 5 rfl) fp_RX4_27 rfl rfl ?_
  refine e_aload_n (dx D_p_clear 6 rfl) rfl ?_
  refine e_callVv (rest := []) [] (dx D_p_clear 7 rfl) ln_p_clear_48 rfl rfl rfl (Nat.le_of_ble_eq_true rfl) h (fun g1 h => ?_)
  exact e_vret (dx D_p_clear 8 rfl) rfl ⟨rfl, h⟩
abbrev Cp_dropPipe (g : Sg) (Q : Sg → Prop) : Prop := Cv Mp_dropPipe [.ref 1] g Q
set_option maxRecDepth 20000 in
theorem Vp_dropPipe {g : Sg} {Q : Sg → Prop} (h : Cp_settle (sgU g 1 5 (if 0 < ((g 1 5) - 5) then ((g 1 5) - 5) else 0)) (fun g1 => Q g1)) : Cp_dropPipe g Q := by
  refine Cl.of 0 pl_X4 rfl ?_
  refine e_aload_n (dx D_p_dropPipe 0 rfl) rfl ?_
  refine q_iconst (v := 0) (dx D_p_dropPipe 1 rfl) (by decide) ?_
  refine e_aload_n (dx D_p_dropPipe 2 rfl) rfl ?_
  refine e_getI (dx D_p_dropPipe 3 rfl) fl_RX4_37 rfl rfl ?_
  refine q_iconst (v := 5) (dx D_p_dropPipe 4 rfl) (by decide) ?_
  refine e_isub (dx D_p_dropPipe 5 rfl) ?_
  refine e_mmax (dx D_p_dropPipe 6 rfl) mk_RX4_51 (by decide) (Nat.le_of_ble_eq_true rfl) ?_
  refine e_putI (dx D_p_dropPipe 7 rfl) fp_RX4_37 rfl rfl ?_
  refine e_aload_n (dx D_p_dropPipe 8 rfl) rfl ?_
  refine e_callVv (rest := []) [] (dx D_p_dropPipe 9 rfl) ln_p_dropPipe_48 rfl rfl rfl (Nat.le_of_ble_eq_true rfl) h (fun g1 h => ?_)
  exact e_vret (dx D_p_dropPipe 10 rfl) rfl ⟨rfl, h⟩
abbrev Cp_wholeLength (g : Sg) (Q : Int32 → Sg → Prop) : Prop := Ci Mp_wholeLength [.ref 1] g Q
abbrev Hp_wholeLength_4 (x1 : Int32) (x2 : Int32) (g : Sg) (Q : Int32 → Sg → Prop) : Prop := Hi Mp_wholeLength 4 [some (.ref 1), some (.int x1), some (.int x2)] [] g Q
set_option maxRecDepth 20000 in
theorem Vp_wholeLength {g : Sg} {Q : Int32 → Sg → Prop} (h : Hp_wholeLength_4 0 0 g Q) : Cp_wholeLength g Q := by
  refine Cl.of 2 pl_X4 rfl ?_
  refine q_iconst (v := 0) (dx D_p_wholeLength 0 rfl) (by decide) ?_
  refine q_istore_n (L' := [some (.ref 1), some (.int 0), none]) (dx D_p_wholeLength 1 rfl) (by decide) rfl ?_
  refine q_iconst (v := 0) (dx D_p_wholeLength 2 rfl) (by decide) ?_
  refine q_istore_n (L' := [some (.ref 1), some (.int 0), some (.int 0)]) (dx D_p_wholeLength 3 rfl) (by decide) rfl ?_
  exact h
set_option maxRecDepth 20000 in
theorem Vp_wholeLength_4 {x1 : Int32} {x2 : Int32} {g : Sg} {Q : Int32 → Sg → Prop} (h : (((g 1 8) ≤ x2 → Q x1 g) ∧ (¬ (g 1 8) ≤ x2 → vp_in x2 16 ∧ Hp_wholeLength_4 (x1 + (g 5 (x2).toNatClampNeg)) (x2 + 1) g Q))) : Hp_wholeLength_4 x1 x2 g Q := by
  refine e_iload_n (dx D_p_wholeLength 4 rfl) rfl ?_
  refine e_aload_n (dx D_p_wholeLength 5 rfl) rfl ?_
  refine e_getI (dx D_p_wholeLength 6 rfl) fl_RX4_61 rfl rfl ?_
  refine e_icmp_ge (tgt := 27) (dx D_p_wholeLength 7 rfl) (by decide) (fun c => ?_) (fun c => ?_)
  · replace h := h.1 c
    refine e_iload_n (dx D_p_wholeLength 17 rfl) rfl ?_
    exact e_iret (dx D_p_wholeLength 18 rfl) rfl rfl ⟨_, rfl, h⟩
  · replace h := h.2 c
    refine e_iload_n (dx D_p_wholeLength 8 rfl) rfl ?_
    refine e_aload_n (dx D_p_wholeLength 9 rfl) rfl ?_
    refine e_getR (dx D_p_wholeLength 10 rfl) fl_RX4_21 rfl rfl ?_
    refine e_iload_n (dx D_p_wholeLength 11 rfl) rfl ?_
    obtain ⟨hb1, h⟩ := h
    refine e_iald (dx D_p_wholeLength 12 rfl) rfl hb1 ?_
    refine e_iadd (dx D_p_wholeLength 13 rfl) ?_
    refine q_istore_n (L' := [some (.ref 1), some (.int (x1 + (g 5 (x2).toNatClampNeg))), some (.int x2)]) (dx D_p_wholeLength 14 rfl) (by decide) rfl ?_
    refine q_iinc (d := 1) (L' := [some (.ref 1), some (.int (x1 + (g 5 (x2).toNatClampNeg))), some (.int (x2 + 1))]) (dx D_p_wholeLength 15 rfl) rfl (by decide) (by decide) rfl ?_
    refine e_goto (tgt := 4) (dx D_p_wholeLength 16 rfl) (by decide) ?_
    exact h
abbrev Cp_dampIn (x1 : Int32) (g : Sg) (Q : Int32 → Sg → Prop) : Prop := Ci Mp_dampIn [.ref 1, .int x1] g Q
abbrev Hp_dampIn_4 (x1 : Int32) (x2 : Int32) (x3 : Int32) (g : Sg) (Q : Int32 → Sg → Prop) : Prop := Hi Mp_dampIn 4 [some (.ref 1), some (.int x1), some (.int x2), some (.int x3)] [] g Q
set_option maxRecDepth 20000 in
theorem Vp_dampIn {x1 : Int32} {g : Sg} {Q : Int32 → Sg → Prop} (h : Hp_dampIn_4 x1 0 0 g Q) : Cp_dampIn x1 g Q := by
  refine Cl.of 2 pl_X4 rfl ?_
  refine q_iconst (v := 0) (dx D_p_dampIn 0 rfl) (by decide) ?_
  refine q_istore_n (L' := [some (.ref 1), some (.int x1), some (.int 0), none]) (dx D_p_dampIn 1 rfl) (by decide) rfl ?_
  refine q_iconst (v := 0) (dx D_p_dampIn 2 rfl) (by decide) ?_
  refine q_istore_n (L' := [some (.ref 1), some (.int x1), some (.int 0), some (.int 0)]) (dx D_p_dampIn 3 rfl) (by decide) rfl ?_
  exact h
set_option maxRecDepth 20000 in
theorem Vp_dampIn_4 {x1 : Int32} {x2 : Int32} {x3 : Int32} {g : Sg} {Q : Int32 → Sg → Prop} (h : (((g 1 8) ≤ x3 → Q x2 g) ∧ (¬ (g 1 8) ≤ x3 → (((tbb x1 x3 = true) → vp_in x3 16 ∧ Hp_dampIn_4 x1 (x2 + (g 6 (x3).toNatClampNeg)) (x3 + 1) g Q) ∧ (¬ (tbb x1 x3 = true) → Hp_dampIn_4 x1 x2 (x3 + 1) g Q))))) : Hp_dampIn_4 x1 x2 x3 g Q := by
  refine e_iload_n (dx D_p_dampIn 4 rfl) rfl ?_
  refine e_aload_n (dx D_p_dampIn 5 rfl) rfl ?_
  refine e_getI (dx D_p_dampIn 6 rfl) fl_RX4_61 rfl rfl ?_
  refine e_icmp_ge (tgt := 35) (dx D_p_dampIn 7 rfl) (by decide) (fun c => ?_) (fun c => ?_)
  · replace h := h.1 c
    refine e_iload_n (dx D_p_dampIn 21 rfl) rfl ?_
    exact e_iret (dx D_p_dampIn 22 rfl) rfl rfl ⟨_, rfl, h⟩
  · replace h := h.2 c
    refine e_iload_n (dx D_p_dampIn 8 rfl) rfl ?_
    refine e_iload_n (dx D_p_dampIn 9 rfl) rfl ?_
    refine e_callSNi (Q1 := fun r g' => bP (tbb x1 x3 = true) = r ∧ g = g') (rest := []) [.int x1, .int x3] (dx D_p_dampIn 10 rfl) ln_p_dampIn_67 rfl rfl (Nat.le_of_ble_eq_true rfl) (Ix_hasBit  ⟨rfl, rfl⟩) (fun r g' hh => ?_)
    obtain ⟨rfl, rfl⟩ := hh
    refine e_if_eq (tgt := 29) (dx D_p_dampIn 11 rfl) (by decide) (fun c => ?_) (fun c => ?_)
    · replace h := h.2 (bP_z c)
      refine q_iinc (d := 1) (L' := [some (.ref 1), some (.int x1), some (.int x2), some (.int (x3 + 1))]) (dx D_p_dampIn 19 rfl) rfl (by decide) (by decide) rfl ?_
      refine e_goto (tgt := 4) (dx D_p_dampIn 20 rfl) (by decide) ?_
      exact h
    · replace h := h.1 (bP_n c)
      refine e_iload_n (dx D_p_dampIn 12 rfl) rfl ?_
      refine e_aload_n (dx D_p_dampIn 13 rfl) rfl ?_
      refine e_getR (dx D_p_dampIn 14 rfl) fl_RX4_24 rfl rfl ?_
      refine e_iload_n (dx D_p_dampIn 15 rfl) rfl ?_
      obtain ⟨hb1, h⟩ := h
      refine e_iald (dx D_p_dampIn 16 rfl) rfl hb1 ?_
      refine e_iadd (dx D_p_dampIn 17 rfl) ?_
      refine q_istore_n (L' := [some (.ref 1), some (.int x1), some (.int (x2 + (g 6 (x3).toNatClampNeg))), some (.int x3)]) (dx D_p_dampIn 18 rfl) (by decide) rfl ?_
      refine q_iinc (d := 1) (L' := [some (.ref 1), some (.int x1), some (.int (x2 + (g 6 (x3).toNatClampNeg))), some (.int (x3 + 1))]) (dx D_p_dampIn 19 rfl) rfl (by decide) (by decide) rfl ?_
      refine e_goto (tgt := 4) (dx D_p_dampIn 20 rfl) (by decide) ?_
      exact h
abbrev Cr_ring (g : Sg) (Q : Sg → Prop) : Prop := Cv Mr_ring [.ref 22] g Q
abbrev Hr_ring_2 (x1 : Int32) (g : Sg) (Q : Sg → Prop) : Prop := Hv Mr_ring 2 [some (.ref 22), some (.int x1), none, none] [] g Q
abbrev Hr_ring_101 (x1 : Int32) (g : Sg) (Q : Sg → Prop) : Prop := Hv Mr_ring 101 [some (.ref 22), some (.int x1), none, none] [] g Q
set_option maxRecDepth 20000 in
theorem Vr_ring {g : Sg} {Q : Sg → Prop} (h : Hr_ring_2 0 g Q) : Cr_ring g Q := by
  refine Cl.of 3 pl_X5 rfl ?_
  refine q_iconst (v := 0) (dx D_r_ring 0 rfl) (by decide) ?_
  refine q_istore_n (L' := [some (.ref 22), some (.int 0), none, none]) (dx D_r_ring 1 rfl) (by decide) rfl ?_
  exact h
set_option maxRecDepth 20000 in
theorem Vr_ring_2 {x1 : Int32} {g : Sg} {Q : Sg → Prop} (h : (((g 1 8) ≤ x1 → Ck_fill 23 0 g (fun g1 => Hr_ring_101 0 g1 Q)) ∧ (¬ (g 1 8) ≤ x1 → (((tbb (g 1 9) x1 = true) → Hr_ring_2 (x1 + 1) g Q) ∧ (¬ (tbb (g 1 9) x1 = true) → vp_in x1 16 ∧ vp_in (g 3 (x1).toNatClampNeg) 8 ∧ vp_in x1 16 ∧ vp_in x1 16 ∧ vp_in (g 4 (x1).toNatClampNeg) 8 ∧ vp_in x1 16 ∧ vp_in x1 16 ∧ vp_in x1 16 ∧ Hr_ring_2 (x1 + 1) (sgU (sgU g 25 (x1).toNatClampNeg ((g 23 (g 3 (x1).toNatClampNeg).toNatClampNeg) - (g 24 (x1).toNatClampNeg))) 24 (x1).toNatClampNeg ((g 23 (g 4 (x1).toNatClampNeg).toNatClampNeg) - (g 25 (x1).toNatClampNeg))) Q))))) : Hr_ring_2 x1 g Q := by
  refine e_iload_n (dx D_r_ring 2 rfl) rfl ?_
  refine e_aload_n (dx D_r_ring 3 rfl) rfl ?_
  refine e_getR (dx D_r_ring 4 rfl) fl_RX5_21 rfl rfl ?_
  refine e_getI (dx D_r_ring 5 rfl) fl_RX5_34 rfl rfl ?_
  refine e_icmp_ge (tgt := 91) (dx D_r_ring 6 rfl) (by decide) (fun c => ?_) (fun c => ?_)
  · replace h := h.1 c
    refine e_aload_n (dx D_r_ring 53 rfl) rfl ?_
    refine e_getR (dx D_r_ring 54 rfl) fl_RX5_9 rfl rfl ?_
    refine q_iconst (v := 0) (dx D_r_ring 55 rfl) (by decide) ?_
    refine e_callSv (rest := []) [.ref 23, .int 0] (dx D_r_ring 56 rfl) ln_r_ring_25 rfl rfl (Nat.le_of_ble_eq_true rfl) h (fun g1 h => ?_)
    refine q_iconst (v := 0) (dx D_r_ring 57 rfl) (by decide) ?_
    refine q_istore_n (L' := [some (.ref 22), some (.int 0), none, none]) (dx D_r_ring 58 rfl) (by decide) rfl ?_
    exact h
  · replace h := h.2 c
    refine e_aload_n (dx D_r_ring 7 rfl) rfl ?_
    refine e_getR (dx D_r_ring 8 rfl) fl_RX5_21 rfl rfl ?_
    refine e_iload_n (dx D_r_ring 9 rfl) rfl ?_
    refine e_callVi (Q1 := fun r g' => bP (tbb (g 1 9) x1 = true) = r ∧ g = g') (rest := []) [.int x1] (dx D_r_ring 10 rfl) ln_r_ring_40 rfl rfl rfl (Nat.le_of_ble_eq_true rfl) (Ip_isShut  ⟨rfl, rfl⟩) (fun r g' hh => ?_)
    obtain ⟨rfl, rfl⟩ := hh
    refine e_if_eq (tgt := 27) (dx D_r_ring 11 rfl) (by decide) (fun c => ?_) (fun c => ?_)
    · replace h := h.2 (bP_z c)
      refine e_aload_n (dx D_r_ring 13 rfl) rfl ?_
      refine e_getR (dx D_r_ring 14 rfl) fl_RX5_9 rfl rfl ?_
      refine e_aload_n (dx D_r_ring 15 rfl) rfl ?_
      refine e_getR (dx D_r_ring 16 rfl) fl_RX5_21 rfl rfl ?_
      refine e_getR (dx D_r_ring 17 rfl) fl_RX5_44 rfl rfl ?_
      refine e_iload_n (dx D_r_ring 18 rfl) rfl ?_
      obtain ⟨hb2, h⟩ := h
      refine e_iald (dx D_r_ring 19 rfl) rfl hb2 ?_
      obtain ⟨hb3, h⟩ := h
      refine e_iald (dx D_r_ring 20 rfl) rfl hb3 ?_
      refine e_aload_n (dx D_r_ring 21 rfl) rfl ?_
      refine e_getR (dx D_r_ring 22 rfl) fl_RX5_15 rfl rfl ?_
      refine e_iload_n (dx D_r_ring 23 rfl) rfl ?_
      obtain ⟨hb4, h⟩ := h
      refine e_iald (dx D_r_ring 24 rfl) rfl hb4 ?_
      refine e_isub (dx D_r_ring 25 rfl) ?_
      refine q_istore_n (L' := [some (.ref 22), some (.int x1), some (.int ((g 23 (g 3 (x1).toNatClampNeg).toNatClampNeg) - (g 24 (x1).toNatClampNeg))), none]) (dx D_r_ring 26 rfl) (by decide) rfl ?_
      refine e_aload_n (dx D_r_ring 27 rfl) rfl ?_
      refine e_getR (dx D_r_ring 28 rfl) fl_RX5_9 rfl rfl ?_
      refine e_aload_n (dx D_r_ring 29 rfl) rfl ?_
      refine e_getR (dx D_r_ring 30 rfl) fl_RX5_21 rfl rfl ?_
      refine e_getR (dx D_r_ring 31 rfl) fl_RX5_47 rfl rfl ?_
      refine e_iload_n (dx D_r_ring 32 rfl) rfl ?_
      obtain ⟨hb5, h⟩ := h
      refine e_iald (dx D_r_ring 33 rfl) rfl hb5 ?_
      obtain ⟨hb6, h⟩ := h
      refine e_iald (dx D_r_ring 34 rfl) rfl hb6 ?_
      refine e_aload_n (dx D_r_ring 35 rfl) rfl ?_
      refine e_getR (dx D_r_ring 36 rfl) fl_RX5_18 rfl rfl ?_
      refine e_iload_n (dx D_r_ring 37 rfl) rfl ?_
      obtain ⟨hb7, h⟩ := h
      refine e_iald (dx D_r_ring 38 rfl) rfl hb7 ?_
      refine e_isub (dx D_r_ring 39 rfl) ?_
      refine q_istore_n (L' := [some (.ref 22), some (.int x1), some (.int ((g 23 (g 3 (x1).toNatClampNeg).toNatClampNeg) - (g 24 (x1).toNatClampNeg))), some (.int ((g 23 (g 4 (x1).toNatClampNeg).toNatClampNeg) - (g 25 (x1).toNatClampNeg)))]) (dx D_r_ring 40 rfl) (by decide) rfl ?_
      refine e_aload_n (dx D_r_ring 41 rfl) rfl ?_
      refine e_getR (dx D_r_ring 42 rfl) fl_RX5_18 rfl rfl ?_
      refine e_iload_n (dx D_r_ring 43 rfl) rfl ?_
      refine e_iload_n (dx D_r_ring 44 rfl) rfl ?_
      obtain ⟨hb8, h⟩ := h
      refine e_iast (dx D_r_ring 45 rfl) rfl hb8 ?_
      refine e_aload_n (dx D_r_ring 46 rfl) rfl ?_
      refine e_getR (dx D_r_ring 47 rfl) fl_RX5_15 rfl rfl ?_
      refine e_iload_n (dx D_r_ring 48 rfl) rfl ?_
      refine e_iload_n (dx D_r_ring 49 rfl) rfl ?_
      obtain ⟨hb9, h⟩ := h
      refine e_iast (dx D_r_ring 50 rfl) rfl hb9 ?_
      refine q_iinc (d := 1) (L' := [some (.ref 22), some (.int (x1 + 1)), some (.int ((g 23 (g 3 (x1).toNatClampNeg).toNatClampNeg) - (g 24 (x1).toNatClampNeg))), some (.int ((g 23 (g 4 (x1).toNatClampNeg).toNatClampNeg) - (g 25 (x1).toNatClampNeg)))]) (dx D_r_ring 51 rfl) rfl (by decide) (by decide) rfl ?_
      refine e_goto (tgt := 2) (dx D_r_ring 52 rfl) (by decide) ?_
      exact Wp.mask [true, true, false, false] h
    · replace h := h.1 (bP_n c)
      refine e_goto (tgt := 85) (dx D_r_ring 12 rfl) (by decide) ?_
      refine q_iinc (d := 1) (L' := [some (.ref 22), some (.int (x1 + 1)), none, none]) (dx D_r_ring 51 rfl) rfl (by decide) (by decide) rfl ?_
      refine e_goto (tgt := 2) (dx D_r_ring 52 rfl) (by decide) ?_
      exact h
set_option maxRecDepth 20000 in
theorem Vr_ring_101 {x1 : Int32} {g : Sg} {Q : Sg → Prop} (h : (((g 1 8) ≤ x1 → Q g) ∧ (¬ (g 1 8) ≤ x1 → vp_in x1 16 ∧ vp_in (g 3 (x1).toNatClampNeg) 8 ∧ vp_in x1 16 ∧ vp_in (g 3 (x1).toNatClampNeg) 8 ∧ vp_in x1 16 ∧ vp_in (g 4 (x1).toNatClampNeg) 8 ∧ vp_in x1 16 ∧ vp_in (g 4 (x1).toNatClampNeg) 8 ∧ Hr_ring_101 (x1 + 1) (sgU (sgU g 23 (g 3 (x1).toNatClampNeg).toNatClampNeg ((g 23 (g 3 (x1).toNatClampNeg).toNatClampNeg) + (g 24 (x1).toNatClampNeg))) 23 (g 4 (x1).toNatClampNeg).toNatClampNeg (((sgU g 23 (g 3 (x1).toNatClampNeg).toNatClampNeg ((g 23 (g 3 (x1).toNatClampNeg).toNatClampNeg) + (g 24 (x1).toNatClampNeg))) 23 (g 4 (x1).toNatClampNeg).toNatClampNeg) + (g 25 (x1).toNatClampNeg))) Q))) : Hr_ring_101 x1 g Q := by
  refine e_iload_n (dx D_r_ring 59 rfl) rfl ?_
  refine e_aload_n (dx D_r_ring 60 rfl) rfl ?_
  refine e_getR (dx D_r_ring 61 rfl) fl_RX5_21 rfl rfl ?_
  refine e_getI (dx D_r_ring 62 rfl) fl_RX5_34 rfl rfl ?_
  refine e_icmp_ge (tgt := 164) (dx D_r_ring 63 rfl) (by decide) (fun c => ?_) (fun c => ?_)
  · replace h := h.1 c
    exact e_vret (dx D_r_ring 96 rfl) rfl ⟨rfl, h⟩
  · replace h := h.2 c
    refine e_aload_n (dx D_r_ring 64 rfl) rfl ?_
    refine e_getR (dx D_r_ring 65 rfl) fl_RX5_9 rfl rfl ?_
    refine e_aload_n (dx D_r_ring 66 rfl) rfl ?_
    refine e_getR (dx D_r_ring 67 rfl) fl_RX5_21 rfl rfl ?_
    refine e_getR (dx D_r_ring 68 rfl) fl_RX5_44 rfl rfl ?_
    refine e_iload_n (dx D_r_ring 69 rfl) rfl ?_
    obtain ⟨hb1, h⟩ := h
    refine e_iald (dx D_r_ring 70 rfl) rfl hb1 ?_
    refine e_dup2 (dx D_r_ring 71 rfl) rfl rfl ?_
    obtain ⟨hb2, h⟩ := h
    refine e_iald (dx D_r_ring 72 rfl) rfl hb2 ?_
    refine e_aload_n (dx D_r_ring 73 rfl) rfl ?_
    refine e_getR (dx D_r_ring 74 rfl) fl_RX5_15 rfl rfl ?_
    refine e_iload_n (dx D_r_ring 75 rfl) rfl ?_
    obtain ⟨hb3, h⟩ := h
    refine e_iald (dx D_r_ring 76 rfl) rfl hb3 ?_
    refine e_iadd (dx D_r_ring 77 rfl) ?_
    obtain ⟨hb4, h⟩ := h
    refine e_iast (dx D_r_ring 78 rfl) rfl hb4 ?_
    refine e_aload_n (dx D_r_ring 79 rfl) rfl ?_
    refine e_getR (dx D_r_ring 80 rfl) fl_RX5_9 rfl rfl ?_
    refine e_aload_n (dx D_r_ring 81 rfl) rfl ?_
    refine e_getR (dx D_r_ring 82 rfl) fl_RX5_21 rfl rfl ?_
    refine e_getR (dx D_r_ring 83 rfl) fl_RX5_47 rfl rfl ?_
    refine e_iload_n (dx D_r_ring 84 rfl) rfl ?_
    obtain ⟨hb5, h⟩ := h
    refine e_iald (dx D_r_ring 85 rfl) rfl hb5 ?_
    refine e_dup2 (dx D_r_ring 86 rfl) rfl rfl ?_
    obtain ⟨hb6, h⟩ := h
    refine e_iald (dx D_r_ring 87 rfl) rfl hb6 ?_
    refine e_aload_n (dx D_r_ring 88 rfl) rfl ?_
    refine e_getR (dx D_r_ring 89 rfl) fl_RX5_18 rfl rfl ?_
    refine e_iload_n (dx D_r_ring 90 rfl) rfl ?_
    obtain ⟨hb7, h⟩ := h
    refine e_iald (dx D_r_ring 91 rfl) rfl hb7 ?_
    refine e_iadd (dx D_r_ring 92 rfl) ?_
    obtain ⟨hb8, h⟩ := h
    refine e_iast (dx D_r_ring 93 rfl) rfl hb8 ?_
    refine q_iinc (d := 1) (L' := [some (.ref 22), some (.int (x1 + 1)), none, none]) (dx D_r_ring 94 rfl) rfl (by decide) (by decide) rfl ?_
    refine e_goto (tgt := 101) (dx D_r_ring 95 rfl) (by decide) ?_
    exact h
