abbrev Cr_follow (x1 : Int32) (x2 : Int32) (g : Sg) (Q : Sg → Prop) : Prop := Cv Mr_follow [.ref 22, .int x1, .int x2] g Q
abbrev Hr_follow_33 (x2 : Int32) (x3 : Int32) (g : Sg) (Q : Sg → Prop) : Prop := Hv Mr_follow 33 [some (.ref 22), none, some (.int x2), some (.int x3)] [] g Q
set_option maxRecDepth 20000 in
theorem Vr_follow {x1 : Int32} {x2 : Int32} {g : Sg} {Q : Sg → Prop} (h : Ck_fill 23 0 g (fun g1 => Ck_fill 24 0 g1 (fun g2 => Ck_fill 25 0 g2 (fun g3 => vp_in x1 8 ∧ Hr_follow_33 x2 0 (sgU g3 23 (x1).toNatClampNeg 1) Q)))) : Cr_follow x1 x2 g Q := by
  refine Cl.of 1 pl_X5 rfl ?_
  refine e_aload_n (dx D_r_follow 0 rfl) rfl ?_
  refine e_getR (dx D_r_follow 1 rfl) fl_RX5_9 rfl rfl ?_
  refine q_iconst (v := 0) (dx D_r_follow 2 rfl) (by decide) ?_
  refine e_callSv (rest := []) [.ref 23, .int 0] (dx D_r_follow 3 rfl) ln_r_follow_25 rfl rfl (Nat.le_of_ble_eq_true rfl) h (fun g1 h => ?_)
  refine e_aload_n (dx D_r_follow 4 rfl) rfl ?_
  refine e_getR (dx D_r_follow 5 rfl) fl_RX5_15 rfl rfl ?_
  refine q_iconst (v := 0) (dx D_r_follow 6 rfl) (by decide) ?_
  refine e_callSv (rest := []) [.ref 24, .int 0] (dx D_r_follow 7 rfl) ln_r_follow_25 rfl rfl (Nat.le_of_ble_eq_true rfl) h (fun g2 h => ?_)
  refine e_aload_n (dx D_r_follow 8 rfl) rfl ?_
  refine e_getR (dx D_r_follow 9 rfl) fl_RX5_18 rfl rfl ?_
  refine q_iconst (v := 0) (dx D_r_follow 10 rfl) (by decide) ?_
  refine e_callSv (rest := []) [.ref 25, .int 0] (dx D_r_follow 11 rfl) ln_r_follow_25 rfl rfl (Nat.le_of_ble_eq_true rfl) h (fun g3 h => ?_)
  refine e_aload_n (dx D_r_follow 12 rfl) rfl ?_
  refine e_getR (dx D_r_follow 13 rfl) fl_RX5_9 rfl rfl ?_
  refine e_iload_n (dx D_r_follow 14 rfl) rfl ?_
  refine q_iconst (v := 1) (dx D_r_follow 15 rfl) (by decide) ?_
  obtain ⟨hb4, h⟩ := h
  refine e_iast (dx D_r_follow 16 rfl) rfl hb4 ?_
  refine q_iconst (v := 0) (dx D_r_follow 17 rfl) (by decide) ?_
  refine q_istore_n (L' := [some (.ref 22), some (.int x1), some (.int x2), some (.int 0)]) (dx D_r_follow 18 rfl) (by decide) rfl ?_
  exact Wp.mask [true, false, true, true] h
set_option maxRecDepth 20000 in
theorem Vr_follow_33 {x2 : Int32} {x3 : Int32} {g : Sg} {Q : Sg → Prop} (h : ((x2 ≤ x3 → Q g) ∧ (¬ x2 ≤ x3 → Cr_ring g (fun g1 => Hr_follow_33 x2 (x3 + 1) g1 Q)))) : Hr_follow_33 x2 x3 g Q := by
  refine e_iload_n (dx D_r_follow 19 rfl) rfl ?_
  refine e_iload_n (dx D_r_follow 20 rfl) rfl ?_
  refine e_icmp_ge (tgt := 48) (dx D_r_follow 21 rfl) (by decide) (fun c => ?_) (fun c => ?_)
  · replace h := h.1 c
    exact e_vret (dx D_r_follow 26 rfl) rfl ⟨rfl, h⟩
  · replace h := h.2 c
    refine e_aload_n (dx D_r_follow 22 rfl) rfl ?_
    refine e_callVv (rest := []) [] (dx D_r_follow 23 rfl) ln_r_follow_31 rfl rfl rfl (Nat.le_of_ble_eq_true rfl) h (fun g1 h => ?_)
    refine q_iinc (d := 1) (L' := [some (.ref 22), none, some (.int x2), some (.int (x3 + 1))]) (dx D_r_follow 24 rfl) rfl (by decide) (by decide) rfl ?_
    refine e_goto (tgt := 33) (dx D_r_follow 25 rfl) (by decide) ?_
    exact h
abbrev Cr_possibleEnds (g : Sg) (Q : Int32 → Sg → Prop) : Prop := Ci Mr_possibleEnds [.ref 22] g Q
abbrev Hr_possibleEnds_4 (x1 : Int32) (x2 : Int32) (g : Sg) (Q : Int32 → Sg → Prop) : Prop := Hi Mr_possibleEnds 4 [some (.ref 22), some (.int x1), some (.int x2)] [] g Q
set_option maxRecDepth 20000 in
theorem Vr_possibleEnds {g : Sg} {Q : Int32 → Sg → Prop} (h : Hr_possibleEnds_4 0 0 g Q) : Cr_possibleEnds g Q := by
  refine Cl.of 2 pl_X5 rfl ?_
  refine q_iconst (v := 0) (dx D_r_possibleEnds 0 rfl) (by decide) ?_
  refine q_istore_n (L' := [some (.ref 22), some (.int 0), none]) (dx D_r_possibleEnds 1 rfl) (by decide) rfl ?_
  refine q_iconst (v := 0) (dx D_r_possibleEnds 2 rfl) (by decide) ?_
  refine q_istore_n (L' := [some (.ref 22), some (.int 0), some (.int 0)]) (dx D_r_possibleEnds 3 rfl) (by decide) rfl ?_
  exact h
set_option maxRecDepth 20000 in
theorem Vr_possibleEnds_4 {x1 : Int32} {x2 : Int32} {g : Sg} {Q : Int32 → Sg → Prop} (h : ((8 ≤ x2 → Q x1 g) ∧ (¬ 8 ≤ x2 → vp_in x2 8 ∧ (((g 23 (x2).toNatClampNeg) ≤ 0 → Hr_possibleEnds_4 x1 (x2 + 1) g Q) ∧ (¬ (g 23 (x2).toNatClampNeg) ≤ 0 → Hr_possibleEnds_4 (x1 ||| (sb x2)) (x2 + 1) g Q))))) : Hr_possibleEnds_4 x1 x2 g Q := by
  refine e_iload_n (dx D_r_possibleEnds 4 rfl) rfl ?_
  refine q_bipush (v := 8) (dx D_r_possibleEnds 5 rfl) (by decide) ?_
  refine e_icmp_ge (tgt := 32) (dx D_r_possibleEnds 6 rfl) (by decide) (fun c => ?_) (fun c => ?_)
  · replace h := h.1 c
    refine e_iload_n (dx D_r_possibleEnds 19 rfl) rfl ?_
    exact e_iret (dx D_r_possibleEnds 20 rfl) rfl rfl ⟨_, rfl, h⟩
  · replace h := h.2 c
    refine e_aload_n (dx D_r_possibleEnds 7 rfl) rfl ?_
    refine e_getR (dx D_r_possibleEnds 8 rfl) fl_RX5_9 rfl rfl ?_
    refine e_iload_n (dx D_r_possibleEnds 9 rfl) rfl ?_
    obtain ⟨hb1, h⟩ := h
    refine e_iald (dx D_r_possibleEnds 10 rfl) rfl hb1 ?_
    refine e_if_le (tgt := 26) (dx D_r_possibleEnds 11 rfl) (by decide) (fun c => ?_) (fun c => ?_)
    · replace h := h.1 c
      refine q_iinc (d := 1) (L' := [some (.ref 22), some (.int x1), some (.int (x2 + 1))]) (dx D_r_possibleEnds 17 rfl) rfl (by decide) (by decide) rfl ?_
      refine e_goto (tgt := 4) (dx D_r_possibleEnds 18 rfl) (by decide) ?_
      exact h
    · replace h := h.2 c
      refine e_iload_n (dx D_r_possibleEnds 12 rfl) rfl ?_
      refine e_iload_n (dx D_r_possibleEnds 13 rfl) rfl ?_
      refine e_callSNi (Q1 := fun r g' => (sb x2) = r ∧ g = g') (rest := [.int x1]) [.int x2] (dx D_r_possibleEnds 14 rfl) ln_r_possibleEnds_50 rfl rfl (Nat.le_of_ble_eq_true rfl) (Ix_bit  ⟨rfl, rfl⟩) (fun r g' hh => ?_)
      obtain ⟨rfl, rfl⟩ := hh
      refine e_ior (dx D_r_possibleEnds 15 rfl) ?_
      refine q_istore_n (L' := [some (.ref 22), some (.int (x1 ||| (sb x2))), some (.int x2)]) (dx D_r_possibleEnds 16 rfl) (by decide) rfl ?_
      refine q_iinc (d := 1) (L' := [some (.ref 22), some (.int (x1 ||| (sb x2))), some (.int (x2 + 1))]) (dx D_r_possibleEnds 17 rfl) rfl (by decide) (by decide) rfl ?_
      refine e_goto (tgt := 4) (dx D_r_possibleEnds 18 rfl) (by decide) ?_
      exact h
abbrev Cr_choicesAt (x1 : Int32) (g : Sg) (Q : Int32 → Sg → Prop) : Prop := Ci Mr_choicesAt [.ref 22, .int x1] g Q
abbrev Hr_choicesAt_4 (x1 : Int32) (x2 : Int32) (x3 : Int32) (g : Sg) (Q : Int32 → Sg → Prop) : Prop := Hi Mr_choicesAt 4 [some (.ref 22), some (.int x1), some (.int x2), some (.int x3)] [] g Q
set_option maxRecDepth 20000 in
theorem Vr_choicesAt {x1 : Int32} {g : Sg} {Q : Int32 → Sg → Prop} (h : Hr_choicesAt_4 x1 0 0 g Q) : Cr_choicesAt x1 g Q := by
  refine Cl.of 2 pl_X5 rfl ?_
  refine q_iconst (v := 0) (dx D_r_choicesAt 0 rfl) (by decide) ?_
  refine q_istore_n (L' := [some (.ref 22), some (.int x1), some (.int 0), none]) (dx D_r_choicesAt 1 rfl) (by decide) rfl ?_
  refine q_iconst (v := 0) (dx D_r_choicesAt 2 rfl) (by decide) ?_
  refine q_istore_n (L' := [some (.ref 22), some (.int x1), some (.int 0), some (.int 0)]) (dx D_r_choicesAt 3 rfl) (by decide) rfl ?_
  exact h
set_option maxRecDepth 20000 in
theorem Vr_choicesAt_4 {x1 : Int32} {x2 : Int32} {x3 : Int32} {g : Sg} {Q : Int32 → Sg → Prop} (h : (((g 1 8) ≤ x3 → Q x2 g) ∧ (¬ (g 1 8) ≤ x3 → vp_in x3 16 ∧ (((tbb (g 1 9) x3 = false ∧ (g 3 (x3).toNatClampNeg = x1 ∨ g 4 (x3).toNatClampNeg = x1)) → Hr_choicesAt_4 x1 (x2 + 1) (x3 + 1) g Q) ∧ (¬ (tbb (g 1 9) x3 = false ∧ (g 3 (x3).toNatClampNeg = x1 ∨ g 4 (x3).toNatClampNeg = x1)) → Hr_choicesAt_4 x1 x2 (x3 + 1) g Q))))) : Hr_choicesAt_4 x1 x2 x3 g Q := by
  refine e_iload_n (dx D_r_choicesAt 4 rfl) rfl ?_
  refine e_aload_n (dx D_r_choicesAt 5 rfl) rfl ?_
  refine e_getR (dx D_r_choicesAt 6 rfl) fl_RX5_21 rfl rfl ?_
  refine e_getI (dx D_r_choicesAt 7 rfl) fl_RX5_34 rfl rfl ?_
  refine e_icmp_ge (tgt := 33) (dx D_r_choicesAt 8 rfl) (by decide) (fun c => ?_) (fun c => ?_)
  · replace h := h.1 c
    refine e_iload_n (dx D_r_choicesAt 17 rfl) rfl ?_
    exact e_iret (dx D_r_choicesAt 18 rfl) rfl rfl ⟨_, rfl, h⟩
  · replace h := h.2 c
    refine e_aload_n (dx D_r_choicesAt 9 rfl) rfl ?_
    refine e_iload_n (dx D_r_choicesAt 10 rfl) rfl ?_
    refine e_iload_n (dx D_r_choicesAt 11 rfl) rfl ?_
    obtain ⟨hb1, h⟩ := h
    refine e_callVi (Q1 := fun r g' => bP (tbb (g 1 9) x3 = false ∧ (g 3 (x3).toNatClampNeg = x1 ∨ g 4 (x3).toNatClampNeg = x1)) = r ∧ g = g') (rest := []) [.int x3, .int x1] (dx D_r_choicesAt 12 rfl) ln_r_choicesAt_62 rfl rfl rfl (Nat.le_of_ble_eq_true rfl) (Ir_isChoice hb1 ⟨rfl, rfl⟩) (fun r g' hh => ?_)
    obtain ⟨rfl, rfl⟩ := hh
    refine e_if_eq (tgt := 27) (dx D_r_choicesAt 13 rfl) (by decide) (fun c => ?_) (fun c => ?_)
    · replace h := h.2 (bP_z c)
      refine q_iinc (d := 1) (L' := [some (.ref 22), some (.int x1), some (.int x2), some (.int (x3 + 1))]) (dx D_r_choicesAt 15 rfl) rfl (by decide) (by decide) rfl ?_
      refine e_goto (tgt := 4) (dx D_r_choicesAt 16 rfl) (by decide) ?_
      exact h
    · replace h := h.1 (bP_n c)
      refine q_iinc (d := 1) (L' := [some (.ref 22), some (.int x1), some (.int (x2 + 1)), some (.int x3)]) (dx D_r_choicesAt 14 rfl) rfl (by decide) (by decide) rfl ?_
      refine q_iinc (d := 1) (L' := [some (.ref 22), some (.int x1), some (.int (x2 + 1)), some (.int (x3 + 1))]) (dx D_r_choicesAt 15 rfl) rfl (by decide) (by decide) rfl ?_
      refine e_goto (tgt := 4) (dx D_r_choicesAt 16 rfl) (by decide) ?_
      exact h
abbrev Cr_behindChoice (x1 : Int32) (x2 : Int32) (g : Sg) (Q : Int32 → Sg → Prop) : Prop := Ci Mr_behindChoice [.ref 22, .int x1, .int x2] g Q
abbrev Hr_behindChoice_5 (x1 : Int32) (x3 : Int32) (x4 : Int32) (g : Sg) (Q : Int32 → Sg → Prop) : Prop := Hi Mr_behindChoice 5 [some (.ref 22), some (.int x1), none, some (.int x3), some (.int x4)] [] g Q
set_option maxRecDepth 20000 in
theorem Vr_behindChoice {x1 : Int32} {x2 : Int32} {g : Sg} {Q : Int32 → Sg → Prop} (h : Hr_behindChoice_5 x1 x2 0 g Q) : Cr_behindChoice x1 x2 g Q := by
  refine Cl.of 2 pl_X5 rfl ?_
  refine e_iload_n (dx D_r_behindChoice 0 rfl) rfl ?_
  refine q_istore_n (L' := [some (.ref 22), some (.int x1), some (.int x2), some (.int x2), none]) (dx D_r_behindChoice 1 rfl) (by decide) rfl ?_
  refine q_iconst (v := 0) (dx D_r_behindChoice 2 rfl) (by decide) ?_
  refine q_istore (L' := [some (.ref 22), some (.int x1), some (.int x2), some (.int x2), some (.int 0)]) (dx D_r_behindChoice 3 rfl) (by decide) rfl ?_
  exact Wp.mask [true, true, false, true, true] h
set_option maxRecDepth 20000 in
theorem Vr_behindChoice_5 {x1 : Int32} {x3 : Int32} {x4 : Int32} {g : Sg} {Q : Int32 → Sg → Prop} (h : (((g 1 8) ≤ x4 → Q x1 g) ∧ (¬ (g 1 8) ≤ x4 → vp_in x4 16 ∧ (((tbb (g 1 9) x4 = false ∧ (g 3 (x4).toNatClampNeg = x1 ∨ g 4 (x4).toNatClampNeg = x1)) → ((x3 = 0 → vp_in x4 16 ∧ Q (if g 3 (x4).toNatClampNeg = x1 then g 4 (x4).toNatClampNeg else g 3 (x4).toNatClampNeg) g) ∧ (¬ x3 = 0 → Hr_behindChoice_5 x1 (x3 + (-1)) (x4 + 1) g Q))) ∧ (¬ (tbb (g 1 9) x4 = false ∧ (g 3 (x4).toNatClampNeg = x1 ∨ g 4 (x4).toNatClampNeg = x1)) → Hr_behindChoice_5 x1 x3 (x4 + 1) g Q))))) : Hr_behindChoice_5 x1 x3 x4 g Q := by
  refine e_iload (dx D_r_behindChoice 4 rfl) rfl ?_
  refine e_aload_n (dx D_r_behindChoice 5 rfl) rfl ?_
  refine e_getR (dx D_r_behindChoice 6 rfl) fl_RX5_21 rfl rfl ?_
  refine e_getI (dx D_r_behindChoice 7 rfl) fl_RX5_34 rfl rfl ?_
  refine e_icmp_ge (tgt := 51) (dx D_r_behindChoice 8 rfl) (by decide) (fun c => ?_) (fun c => ?_)
  · replace h := h.1 c
    refine e_iload_n (dx D_r_behindChoice 25 rfl) rfl ?_
    exact e_iret (dx D_r_behindChoice 26 rfl) rfl rfl ⟨_, rfl, h⟩
  · replace h := h.2 c
    refine e_aload_n (dx D_r_behindChoice 9 rfl) rfl ?_
    refine e_iload (dx D_r_behindChoice 10 rfl) rfl ?_
    refine e_iload_n (dx D_r_behindChoice 11 rfl) rfl ?_
    obtain ⟨hb1, h⟩ := h
    refine e_callVi (Q1 := fun r g' => bP (tbb (g 1 9) x4 = false ∧ (g 3 (x4).toNatClampNeg = x1 ∨ g 4 (x4).toNatClampNeg = x1)) = r ∧ g = g') (rest := []) [.int x4, .int x1] (dx D_r_behindChoice 12 rfl) ln_r_behindChoice_62 rfl rfl rfl (Nat.le_of_ble_eq_true rfl) (Ir_isChoice hb1 ⟨rfl, rfl⟩) (fun r g' hh => ?_)
    obtain ⟨rfl, rfl⟩ := hh
    refine e_if_eq (tgt := 45) (dx D_r_behindChoice 13 rfl) (by decide) (fun c => ?_) (fun c => ?_)
    · replace h := h.2 (bP_z c)
      refine q_iinc (d := 1) (L' := [some (.ref 22), some (.int x1), none, some (.int x3), some (.int (x4 + 1))]) (dx D_r_behindChoice 23 rfl) rfl (by decide) (by decide) rfl ?_
      refine e_goto (tgt := 5) (dx D_r_behindChoice 24 rfl) (by decide) ?_
      exact h
    · replace h := h.1 (bP_n c)
      refine e_iload_n (dx D_r_behindChoice 14 rfl) rfl ?_
      refine e_if_ne (tgt := 42) (dx D_r_behindChoice 15 rfl) (by decide) (fun c => ?_) (fun c => ?_)
      · replace h := h.2 c
        refine q_iinc (d := (-1)) (L' := [some (.ref 22), some (.int x1), none, some (.int (x3 + (-1))), some (.int x4)]) (dx D_r_behindChoice 22 rfl) rfl (by decide) (by decide) rfl ?_
        refine q_iinc (d := 1) (L' := [some (.ref 22), some (.int x1), none, some (.int (x3 + (-1))), some (.int (x4 + 1))]) (dx D_r_behindChoice 23 rfl) rfl (by decide) (by decide) rfl ?_
        refine e_goto (tgt := 5) (dx D_r_behindChoice 24 rfl) (by decide) ?_
        exact h
      · replace h := h.1 c
        refine e_aload_n (dx D_r_behindChoice 16 rfl) rfl ?_
        refine e_getR (dx D_r_behindChoice 17 rfl) fl_RX5_21 rfl rfl ?_
        refine e_iload (dx D_r_behindChoice 18 rfl) rfl ?_
        refine e_iload_n (dx D_r_behindChoice 19 rfl) rfl ?_
        obtain ⟨hb2, h⟩ := h
        refine e_callVi (Q1 := fun r g' => (if g 3 (x4).toNatClampNeg = x1 then g 4 (x4).toNatClampNeg else g 3 (x4).toNatClampNeg) = r ∧ g = g') (rest := []) [.int x4, .int x1] (dx D_r_behindChoice 20 rfl) ln_r_behindChoice_66 rfl rfl rfl (Nat.le_of_ble_eq_true rfl) (Ip_opposite hb2 ⟨rfl, rfl⟩) (fun r g' hh => ?_)
        obtain ⟨rfl, rfl⟩ := hh
        exact e_iret (dx D_r_behindChoice 21 rfl) rfl rfl ⟨_, rfl, h⟩
abbrev Cr_stroll (x1 : Int32) (x2 : Int32) (x3 : Int32) (g : Sg) (Q : Int32 → Sg → Prop) : Prop := Ci Mr_stroll [.ref 22, .int x1, .int x2, .int x3] g Q
abbrev Hr_stroll_9 (x3 : Int32) (x4 : Int32) (x5 : Int32) (x6 : Int32) (g : Sg) (Q : Int32 → Sg → Prop) : Prop := Hi Mr_stroll 9 [some (.ref 22), none, none, some (.int x3), some (.int x4), some (.int x5), some (.int x6), none] [] g Q
set_option maxRecDepth 20000 in
theorem Vr_stroll {x1 : Int32} {x2 : Int32} {x3 : Int32} {g : Sg} {Q : Int32 → Sg → Prop} (h : Hr_stroll_9 x3 x1 x2 0 g Q) : Cr_stroll x1 x2 x3 g Q := by
  refine Cl.of 4 pl_X5 rfl ?_
  refine e_iload_n (dx D_r_stroll 0 rfl) rfl ?_
  refine q_istore (L' := [some (.ref 22), some (.int x1), some (.int x2), some (.int x3), some (.int x1), none, none, none]) (dx D_r_stroll 1 rfl) (by decide) rfl ?_
  refine e_iload_n (dx D_r_stroll 2 rfl) rfl ?_
  refine q_istore (L' := [some (.ref 22), some (.int x1), some (.int x2), some (.int x3), some (.int x1), some (.int x2), none, none]) (dx D_r_stroll 3 rfl) (by decide) rfl ?_
  refine q_iconst (v := 0) (dx D_r_stroll 4 rfl) (by decide) ?_
  refine q_istore (L' := [some (.ref 22), some (.int x1), some (.int x2), some (.int x3), some (.int x1), some (.int x2), some (.int 0), none]) (dx D_r_stroll 5 rfl) (by decide) rfl ?_
  exact Wp.mask [true, false, false, true, true, true, true, false] h
set_option maxRecDepth 20000 in
theorem Vr_stroll_9 {x3 : Int32} {x4 : Int32} {x5 : Int32} {x6 : Int32} {g : Sg} {Q : Int32 → Sg → Prop} (h : ((x3 ≤ x6 → Q x5 g) ∧ (¬ x3 ≤ x6 → Cr_choicesAt x5 g (fun r2 g1 => ((0 < r2 → ¬ r2 = 0 ∧ Cr_behindChoice x5 ((Int32.toUInt32 ((1103515245 * x4) + 12345) >>> (Int32.toUInt32 16 &&& Int32.toUInt32 31)).toInt32 - (Int32.toUInt32 ((1103515245 * x4) + 12345) >>> (Int32.toUInt32 16 &&& Int32.toUInt32 31)).toInt32 / r2 * r2) g1 (fun r5 g4 => Hr_stroll_9 x3 ((1103515245 * x4) + 12345) r5 (x6 + 1) g4 Q)) ∧ (¬ 0 < r2 → Q x5 g1)))))) : Hr_stroll_9 x3 x4 x5 x6 g Q := by
  refine e_iload (dx D_r_stroll 6 rfl) rfl ?_
  refine e_iload_n (dx D_r_stroll 7 rfl) rfl ?_
  refine e_icmp_ge (tgt := 64) (dx D_r_stroll 8 rfl) (by decide) (fun c => ?_) (fun c => ?_)
  · replace h := h.1 c
    refine e_iload (dx D_r_stroll 34 rfl) rfl ?_
    exact e_iret (dx D_r_stroll 35 rfl) rfl rfl ⟨_, rfl, h⟩
  · replace h := h.2 c
    refine e_aload_n (dx D_r_stroll 9 rfl) rfl ?_
    refine e_iload (dx D_r_stroll 10 rfl) rfl ?_
    refine e_callVi (rest := []) [.int x5] (dx D_r_stroll 11 rfl) ln_r_stroll_54 rfl rfl rfl (Nat.le_of_ble_eq_true rfl) h (fun r2 g1 h => ?_)
    refine q_istore (L' := [some (.ref 22), none, none, some (.int x3), some (.int x4), some (.int x5), some (.int x6), some (.int r2)]) (dx D_r_stroll 12 rfl) (by decide) rfl ?_
    refine e_iload (dx D_r_stroll 13 rfl) rfl ?_
    refine e_if_gt (tgt := 31) (dx D_r_stroll 14 rfl) (by decide) (fun c => ?_) (fun c => ?_)
    · replace h := h.1 c
      refine e_ldc (v := 1103515245) (dx D_r_stroll 17 rfl) k778 ?_
      refine e_iload (dx D_r_stroll 18 rfl) rfl ?_
      refine e_imul (dx D_r_stroll 19 rfl) ?_
      refine q_sipush (v := 12345) (dx D_r_stroll 20 rfl) (by decide) ?_
      refine e_iadd (dx D_r_stroll 21 rfl) ?_
      refine q_istore (L' := [some (.ref 22), none, none, some (.int x3), some (.int ((1103515245 * x4) + 12345)), some (.int x5), some (.int x6), some (.int r2)]) (dx D_r_stroll 22 rfl) (by decide) rfl ?_
      refine e_aload_n (dx D_r_stroll 23 rfl) rfl ?_
      refine e_iload (dx D_r_stroll 24 rfl) rfl ?_
      refine e_iload (dx D_r_stroll 25 rfl) rfl ?_
      refine q_bipush (v := 16) (dx D_r_stroll 26 rfl) (by decide) ?_
      refine e_iushr (dx D_r_stroll 27 rfl) ?_
      refine e_iload (dx D_r_stroll 28 rfl) rfl ?_
      obtain ⟨hb3, h⟩ := h
      refine e_irem (dx D_r_stroll 29 rfl) hb3 ?_
      refine e_callVi (rest := []) [.int x5, .int ((Int32.toUInt32 ((1103515245 * x4) + 12345) >>> (Int32.toUInt32 16 &&& Int32.toUInt32 31)).toInt32 - (Int32.toUInt32 ((1103515245 * x4) + 12345) >>> (Int32.toUInt32 16 &&& Int32.toUInt32 31)).toInt32 / r2 * r2)] (dx D_r_stroll 30 rfl) ln_r_stroll_58 rfl rfl rfl (Nat.le_of_ble_eq_true rfl) h (fun r5 g4 h => ?_)
      refine q_istore (L' := [some (.ref 22), none, none, some (.int x3), some (.int ((1103515245 * x4) + 12345)), some (.int r5), some (.int x6), some (.int r2)]) (dx D_r_stroll 31 rfl) (by decide) rfl ?_
      refine q_iinc (d := 1) (L' := [some (.ref 22), none, none, some (.int x3), some (.int ((1103515245 * x4) + 12345)), some (.int r5), some (.int (x6 + 1)), some (.int r2)]) (dx D_r_stroll 32 rfl) rfl (by decide) (by decide) rfl ?_
      refine e_goto (tgt := 9) (dx D_r_stroll 33 rfl) (by decide) ?_
      exact Wp.mask [true, false, false, true, true, true, true, false] h
    · replace h := h.2 c
      refine e_iload (dx D_r_stroll 15 rfl) rfl ?_
      exact e_iret (dx D_r_stroll 16 rfl) rfl rfl ⟨_, rfl, h⟩
abbrev Cs_renew (x1 : Int32) (x2 : Int32) (x3 : Int32) (g : Sg) (Q : Sg → Prop) : Prop := Cv Ms_renew [.ref 30, .int x1, .int x2, .int x3] g Q
abbrev Hs_renew_17 (x1 : Int32) (x3 : Int32) (x4 : Int32) (g : Sg) (Q : Sg → Prop) : Prop := Hv Ms_renew 17 [some (.ref 30), some (.int x1), none, some (.int x3), some (.int x4)] [] g Q
set_option maxRecDepth 20000 in
theorem Vs_renew {x1 : Int32} {x2 : Int32} {x3 : Int32} {g : Sg} {Q : Sg → Prop} (h : vp_in x1 4 ∧ vp_in x1 4 ∧ Hs_renew_17 x1 x3 0 (sgU (sgU g 32 (x1).toNatClampNeg x2) 33 (x1).toNatClampNeg x3) Q) : Cs_renew x1 x2 x3 g Q := by
  refine Cl.of 1 pl_X6 rfl ?_
  refine e_aload_n (dx D_s_renew 0 rfl) rfl ?_
  refine e_getR (dx D_s_renew 1 rfl) fl_RX6_15 rfl rfl ?_
  refine e_iload_n (dx D_s_renew 2 rfl) rfl ?_
  refine e_iload_n (dx D_s_renew 3 rfl) rfl ?_
  obtain ⟨hb1, h⟩ := h
  refine e_iast (dx D_s_renew 4 rfl) rfl hb1 ?_
  refine e_aload_n (dx D_s_renew 5 rfl) rfl ?_
  refine e_getR (dx D_s_renew 6 rfl) fl_RX6_18 rfl rfl ?_
  refine e_iload_n (dx D_s_renew 7 rfl) rfl ?_
  refine e_iload_n (dx D_s_renew 8 rfl) rfl ?_
  obtain ⟨hb2, h⟩ := h
  refine e_iast (dx D_s_renew 9 rfl) rfl hb2 ?_
  refine q_iconst (v := 0) (dx D_s_renew 10 rfl) (by decide) ?_
  refine q_istore (L' := [some (.ref 30), some (.int x1), some (.int x2), some (.int x3), some (.int 0)]) (dx D_s_renew 11 rfl) (by decide) rfl ?_
  exact Wp.mask [true, true, false, true, true] h
set_option maxRecDepth 20000 in
theorem Vs_renew_17 {x1 : Int32} {x3 : Int32} {x4 : Int32} {g : Sg} {Q : Sg → Prop} (h : ((x3 ≤ x4 → Q g) ∧ (¬ x3 ≤ x4 → vp_in ((x1 * 60) + x4) 240 ∧ Hs_renew_17 x1 x3 (x4 + 1) (sgU g 31 ((x1 * 60) + x4).toNatClampNeg 0) Q))) : Hs_renew_17 x1 x3 x4 g Q := by
  refine e_iload (dx D_s_renew 12 rfl) rfl ?_
  refine e_iload_n (dx D_s_renew 13 rfl) rfl ?_
  refine e_icmp_ge (tgt := 42) (dx D_s_renew 14 rfl) (by decide) (fun c => ?_) (fun c => ?_)
  · replace h := h.1 c
    exact e_vret (dx D_s_renew 26 rfl) rfl ⟨rfl, h⟩
  · replace h := h.2 c
    refine e_aload_n (dx D_s_renew 15 rfl) rfl ?_
    refine e_getR (dx D_s_renew 16 rfl) fl_RX6_9 rfl rfl ?_
    refine e_iload_n (dx D_s_renew 17 rfl) rfl ?_
    refine q_bipush (v := 60) (dx D_s_renew 18 rfl) (by decide) ?_
    refine e_imul (dx D_s_renew 19 rfl) ?_
    refine e_iload (dx D_s_renew 20 rfl) rfl ?_
    refine e_iadd (dx D_s_renew 21 rfl) ?_
    refine q_iconst (v := 0) (dx D_s_renew 22 rfl) (by decide) ?_
    obtain ⟨hb1, h⟩ := h
    refine e_iast (dx D_s_renew 23 rfl) rfl hb1 ?_
    refine q_iinc (d := 1) (L' := [some (.ref 30), some (.int x1), none, some (.int x3), some (.int (x4 + 1))]) (dx D_s_renew 24 rfl) rfl (by decide) (by decide) rfl ?_
    refine e_goto (tgt := 17) (dx D_s_renew 25 rfl) (by decide) ?_
    exact h
abbrev Cs_drop (x1 : Int32) (g : Sg) (Q : Sg → Prop) : Prop := Cv Ms_drop [.ref 30, .int x1] g Q
set_option maxRecDepth 20000 in
theorem Vs_drop {x1 : Int32} {g : Sg} {Q : Sg → Prop} (h : vp_in x1 4 ∧ vp_in x1 4 ∧ Q (sgU (sgU g 32 (x1).toNatClampNeg (-1)) 33 (x1).toNatClampNeg 0)) : Cs_drop x1 g Q := by
  refine Cl.of 0 pl_X6 rfl ?_
  refine e_aload_n (dx D_s_drop 0 rfl) rfl ?_
  refine e_getR (dx D_s_drop 1 rfl) fl_RX6_15 rfl rfl ?_
  refine e_iload_n (dx D_s_drop 2 rfl) rfl ?_
  refine q_iconst (v := (-1)) (dx D_s_drop 3 rfl) (by decide) ?_
  obtain ⟨hb1, h⟩ := h
  refine e_iast (dx D_s_drop 4 rfl) rfl hb1 ?_
  refine e_aload_n (dx D_s_drop 5 rfl) rfl ?_
  refine e_getR (dx D_s_drop 6 rfl) fl_RX6_18 rfl rfl ?_
  refine e_iload_n (dx D_s_drop 7 rfl) rfl ?_
  refine q_iconst (v := 0) (dx D_s_drop 8 rfl) (by decide) ?_
  obtain ⟨hb2, h⟩ := h
  refine e_iast (dx D_s_drop 9 rfl) rfl hb2 ?_
  exact e_vret (dx D_s_drop 10 rfl) rfl ⟨rfl, h⟩
abbrev Cs_findingAt (x1 : Int32) (x2 : Int32) (x3 : Int32) (g : Sg) (Q : Int32 → Sg → Prop) : Prop := Ci Ms_findingAt [.ref 30, .int x1, .int x2, .int x3] g Q
set_option maxRecDepth 20000 in
theorem Vs_findingAt {x1 : Int32} {x2 : Int32} {x3 : Int32} {g : Sg} {Q : Int32 → Sg → Prop} (h : vp_in x1 4 ∧ (((g 32 (x1).toNatClampNeg = (-1)) → Q 1 g) ∧ (¬ (g 32 (x1).toNatClampNeg = (-1)) → vp_in x1 4 ∧ (((g 32 (x1).toNatClampNeg) = x2 → vp_in x1 4 ∧ (((0 ≤ x3 ∧ x3 ≤ ((g 33 (x1).toNatClampNeg) - 1)) → Q 0 g) ∧ (¬ (0 ≤ x3 ∧ x3 ≤ ((g 33 (x1).toNatClampNeg) - 1)) → Q 2 g))) ∧ (¬ (g 32 (x1).toNatClampNeg) = x2 → Q 3 g))))) : Cs_findingAt x1 x2 x3 g Q := by
  refine Cl.of 0 pl_X6 rfl ?_
  refine e_aload_n (dx D_s_findingAt 0 rfl) rfl ?_
  refine e_iload_n (dx D_s_findingAt 1 rfl) rfl ?_
  obtain ⟨hb1, h⟩ := h
  refine e_callVi (Q1 := fun r g' => bP (g 32 (x1).toNatClampNeg = (-1)) = r ∧ g = g') (rest := []) [.int x1] (dx D_s_findingAt 2 rfl) ln_s_findingAt_35 rfl rfl rfl (Nat.le_of_ble_eq_true rfl) (Is_isLost hb1 ⟨rfl, rfl⟩) (fun r g' hh => ?_)
  obtain ⟨rfl, rfl⟩ := hh
  refine e_if_eq (tgt := 10) (dx D_s_findingAt 3 rfl) (by decide) (fun c => ?_) (fun c => ?_)
  · replace h := h.2 (bP_z c)
    refine e_aload_n (dx D_s_findingAt 6 rfl) rfl ?_
    refine e_getR (dx D_s_findingAt 7 rfl) fl_RX6_15 rfl rfl ?_
    refine e_iload_n (dx D_s_findingAt 8 rfl) rfl ?_
    obtain ⟨hb2, h⟩ := h
    refine e_iald (dx D_s_findingAt 9 rfl) rfl hb2 ?_
    refine e_iload_n (dx D_s_findingAt 10 rfl) rfl ?_
    refine e_icmp_eq (tgt := 22) (dx D_s_findingAt 11 rfl) (by decide) (fun c => ?_) (fun c => ?_)
    · replace h := h.1 c
      refine e_iload_n (dx D_s_findingAt 14 rfl) rfl ?_
      refine q_iconst (v := 0) (dx D_s_findingAt 15 rfl) (by decide) ?_
      refine e_aload_n (dx D_s_findingAt 16 rfl) rfl ?_
      refine e_getR (dx D_s_findingAt 17 rfl) fl_RX6_18 rfl rfl ?_
      refine e_iload_n (dx D_s_findingAt 18 rfl) rfl ?_
      obtain ⟨hb3, h⟩ := h
      refine e_iald (dx D_s_findingAt 19 rfl) rfl hb3 ?_
      refine q_iconst (v := 1) (dx D_s_findingAt 20 rfl) (by decide) ?_
      refine e_isub (dx D_s_findingAt 21 rfl) ?_
      refine e_callSNi (Q1 := fun r g' => bP (0 ≤ x3 ∧ x3 ≤ ((g 33 (x1).toNatClampNeg) - 1)) = r ∧ g = g') (rest := []) [.int x3, .int 0, .int ((g 33 (x1).toNatClampNeg) - 1)] (dx D_s_findingAt 22 rfl) ln_s_findingAt_31 rfl rfl (Nat.le_of_ble_eq_true rfl) (Ix_within  ⟨rfl, rfl⟩) (fun r g' hh => ?_)
      obtain ⟨rfl, rfl⟩ := hh
      refine e_if_eq (tgt := 42) (dx D_s_findingAt 23 rfl) (by decide) (fun c => ?_) (fun c => ?_)
      · replace h := h.2 (bP_z c)
        refine q_iconst (v := 2) (dx D_s_findingAt 26 rfl) (by decide) ?_
        exact e_iret (dx D_s_findingAt 27 rfl) rfl rfl ⟨_, rfl, h⟩
      · replace h := h.1 (bP_n c)
        refine q_iconst (v := 0) (dx D_s_findingAt 24 rfl) (by decide) ?_
        refine e_goto (tgt := 43) (dx D_s_findingAt 25 rfl) (by decide) ?_
        exact e_iret (dx D_s_findingAt 27 rfl) rfl rfl ⟨_, rfl, h⟩
    · replace h := h.2 c
      refine q_iconst (v := 3) (dx D_s_findingAt 12 rfl) (by decide) ?_
      exact e_iret (dx D_s_findingAt 13 rfl) rfl rfl ⟨_, rfl, h⟩
  · replace h := h.1 (bP_n c)
    refine q_iconst (v := 1) (dx D_s_findingAt 4 rfl) (by decide) ?_
    exact e_iret (dx D_s_findingAt 5 rfl) rfl rfl ⟨_, rfl, h⟩
abbrev Cs_store (x1 : Int32) (x2 : Int32) (x3 : Int32) (g : Sg) (Q : Sg → Prop) : Prop := Cv Ms_store [.ref 30, .int x1, .int x2, .int x3] g Q
set_option maxRecDepth 20000 in
theorem Vs_store {x1 : Int32} {x2 : Int32} {x3 : Int32} {g : Sg} {Q : Sg → Prop} (h : vp_in x1 4 ∧ vp_in ((x1 * 60) + x2) 240 ∧ Q (sgU g 31 ((x1 * 60) + x2).toNatClampNeg (nrw (g 32 (x1).toNatClampNeg) x3))) : Cs_store x1 x2 x3 g Q := by
  refine Cl.of 0 pl_X6 rfl ?_
  refine e_aload_n (dx D_s_store 0 rfl) rfl ?_
  refine e_getR (dx D_s_store 1 rfl) fl_RX6_9 rfl rfl ?_
  refine e_iload_n (dx D_s_store 2 rfl) rfl ?_
  refine q_bipush (v := 60) (dx D_s_store 3 rfl) (by decide) ?_
  refine e_imul (dx D_s_store 4 rfl) ?_
  refine e_iload_n (dx D_s_store 5 rfl) rfl ?_
  refine e_iadd (dx D_s_store 6 rfl) ?_
  refine e_aload_n (dx D_s_store 7 rfl) rfl ?_
  refine e_getR (dx D_s_store 8 rfl) fl_RX6_15 rfl rfl ?_
  refine e_iload_n (dx D_s_store 9 rfl) rfl ?_
  obtain ⟨hb1, h⟩ := h
  refine e_iald (dx D_s_store 10 rfl) rfl hb1 ?_
  refine e_iload_n (dx D_s_store 11 rfl) rfl ?_
  refine e_callSi (Q1 := fun r g' => (nrw (g 32 (x1).toNatClampNeg) x3) = r ∧ g = g') (rest := [.int ((x1 * 60) + x2), .ref 31]) [.int (g 32 (x1).toNatClampNeg), .int x3] (dx D_s_store 12 rfl) ln_s_store_39 rfl rfl (Nat.le_of_ble_eq_true rfl) (Is_narrowed  ⟨rfl, rfl⟩) (fun r g' hh => ?_)
  obtain ⟨rfl, rfl⟩ := hh
  obtain ⟨hb2, h⟩ := h
  refine e_iast (dx D_s_store 13 rfl) rfl hb2 ?_
  exact e_vret (dx D_s_store 14 rfl) rfl ⟨rfl, h⟩
abbrev Cs_hasSpan (x1 : Int32) (x2 : Int32) (x3 : Int32) (g : Sg) (Q : Int32 → Sg → Prop) : Prop := Ci Ms_hasSpan [.ref 30, .int x1, .int x2, .int x3] g Q
set_option maxRecDepth 20000 in
theorem Vs_hasSpan {x1 : Int32} {x2 : Int32} {x3 : Int32} {g : Sg} {Q : Int32 → Sg → Prop} (h : ((x2 < 0 → Q 0 g) ∧ (¬ x2 < 0 → ((x3 < 0 → Q 0 g) ∧ (¬ x3 < 0 → vp_in x1 4 ∧ ((((g 33 (x1).toNatClampNeg) - x3) < x2 → Q 0 g) ∧ (¬ ((g 33 (x1).toNatClampNeg) - x3) < x2 → Q 1 g))))))) : Cs_hasSpan x1 x2 x3 g Q := by
  refine Cl.of 0 pl_X6 rfl ?_
  refine e_iload_n (dx D_s_hasSpan 0 rfl) rfl ?_
  refine e_if_lt (tgt := 24) (dx D_s_hasSpan 1 rfl) (by decide) (fun c => ?_) (fun c => ?_)
  · replace h := h.1 c
    refine q_iconst (v := 0) (dx D_s_hasSpan 14 rfl) (by decide) ?_
    exact e_iret (dx D_s_hasSpan 15 rfl) rfl (by decide) ⟨_, rfl, h⟩
  · replace h := h.2 c
    refine e_iload_n (dx D_s_hasSpan 2 rfl) rfl ?_
    refine e_if_lt (tgt := 24) (dx D_s_hasSpan 3 rfl) (by decide) (fun c => ?_) (fun c => ?_)
    · replace h := h.1 c
      refine q_iconst (v := 0) (dx D_s_hasSpan 14 rfl) (by decide) ?_
      exact e_iret (dx D_s_hasSpan 15 rfl) rfl (by decide) ⟨_, rfl, h⟩
    · replace h := h.2 c
      refine e_iload_n (dx D_s_hasSpan 4 rfl) rfl ?_
      refine e_aload_n (dx D_s_hasSpan 5 rfl) rfl ?_
      refine e_getR (dx D_s_hasSpan 6 rfl) fl_RX6_18 rfl rfl ?_
      refine e_iload_n (dx D_s_hasSpan 7 rfl) rfl ?_
      obtain ⟨hb1, h⟩ := h
      refine e_iald (dx D_s_hasSpan 8 rfl) rfl hb1 ?_
      refine e_iload_n (dx D_s_hasSpan 9 rfl) rfl ?_
      refine e_isub (dx D_s_hasSpan 10 rfl) ?_
      refine e_icmp_gt (tgt := 24) (dx D_s_hasSpan 11 rfl) (by decide) (fun c => ?_) (fun c => ?_)
      · replace h := h.1 c
        refine q_iconst (v := 0) (dx D_s_hasSpan 14 rfl) (by decide) ?_
        exact e_iret (dx D_s_hasSpan 15 rfl) rfl (by decide) ⟨_, rfl, h⟩
      · replace h := h.2 c
        refine q_iconst (v := 1) (dx D_s_hasSpan 12 rfl) (by decide) ?_
        refine e_goto (tgt := 25) (dx D_s_hasSpan 13 rfl) (by decide) ?_
        exact e_iret (dx D_s_hasSpan 15 rfl) rfl (by decide) ⟨_, rfl, h⟩
abbrev Cs_move (x1 : Int32) (x2 : Int32) (x3 : Int32) (x4 : Int32) (x5 : Int32) (g : Sg) (Q : Sg → Prop) : Prop := Cv Ms_move [.ref 30, .int x1, .int x2, .int x3, .int x4, .int x5] g Q
set_option maxRecDepth 20000 in
theorem Vs_move {x1 : Int32} {x2 : Int32} {x3 : Int32} {x4 : Int32} {x5 : Int32} {g : Sg} {Q : Sg → Prop} (h : ¬ ((x1 * 60) + x2) < 0 ∧ ¬ ((x3 * 60) + x4) < 0 ∧ ¬ x5 < 0 ∧ ((x1 * 60) + x2).toNatClampNeg + (x5).toNatClampNeg ≤ 240 ∧ ((x3 * 60) + x4).toNatClampNeg + (x5).toNatClampNeg ≤ 240 ∧ Q (sgC g 31 (va_cpy (g 31) (g 31) ((x1 * 60) + x2).toNatClampNeg ((x3 * 60) + x4).toNatClampNeg (x5).toNatClampNeg))) : Cs_move x1 x2 x3 x4 x5 g Q := by
  refine Cl.of 0 pl_X6 rfl ?_
  refine e_aload_n (dx D_s_move 0 rfl) rfl ?_
  refine e_getR (dx D_s_move 1 rfl) fl_RX6_9 rfl rfl ?_
  refine e_iload_n (dx D_s_move 2 rfl) rfl ?_
  refine q_bipush (v := 60) (dx D_s_move 3 rfl) (by decide) ?_
  refine e_imul (dx D_s_move 4 rfl) ?_
  refine e_iload_n (dx D_s_move 5 rfl) rfl ?_
  refine e_iadd (dx D_s_move 6 rfl) ?_
  refine e_aload_n (dx D_s_move 7 rfl) rfl ?_
  refine e_getR (dx D_s_move 8 rfl) fl_RX6_9 rfl rfl ?_
  refine e_iload_n (dx D_s_move 9 rfl) rfl ?_
  refine q_bipush (v := 60) (dx D_s_move 10 rfl) (by decide) ?_
  refine e_imul (dx D_s_move 11 rfl) ?_
  refine e_iload (dx D_s_move 12 rfl) rfl ?_
  refine e_iadd (dx D_s_move 13 rfl) ?_
  refine e_iload (dx D_s_move 14 rfl) rfl ?_
  obtain ⟨hb1, h⟩ := h
  obtain ⟨hb2, h⟩ := h
  obtain ⟨hb3, h⟩ := h
  obtain ⟨hb4, h⟩ := h
  obtain ⟨hb5, h⟩ := h
  refine e_copy (dx D_s_move 15 rfl) kcopy rfl rfl hb1 hb2 hb3 hb4 hb5 (by decide) (Nat.le_of_ble_eq_true rfl) ?_
  exact e_vret (dx D_s_move 16 rfl) rfl ⟨rfl, h⟩
abbrev Cw_rowLength (g : Sg) (Q : Int32 → Sg → Prop) : Prop := Ci Mw_rowLength [.ref 7] g Q
abbrev Hw_rowLength_4 (x1 : Int32) (x2 : Int32) (g : Sg) (Q : Int32 → Sg → Prop) : Prop := Hi Mw_rowLength 4 [some (.ref 7), some (.int x1), some (.int x2)] [] g Q
set_option maxRecDepth 20000 in
theorem Vw_rowLength {g : Sg} {Q : Int32 → Sg → Prop} (h : Hw_rowLength_4 0 0 g Q) : Cw_rowLength g Q := by
  refine Cl.of 2 pl_X7 rfl ?_
  refine q_iconst (v := 0) (dx D_w_rowLength 0 rfl) (by decide) ?_
  refine q_istore_n (L' := [some (.ref 7), some (.int 0), none]) (dx D_w_rowLength 1 rfl) (by decide) rfl ?_
  refine q_iconst (v := 0) (dx D_w_rowLength 2 rfl) (by decide) ?_
  refine q_istore_n (L' := [some (.ref 7), some (.int 0), some (.int 0)]) (dx D_w_rowLength 3 rfl) (by decide) rfl ?_
  exact h
set_option maxRecDepth 20000 in
theorem Vw_rowLength_4 {x1 : Int32} {x2 : Int32} {g : Sg} {Q : Int32 → Sg → Prop} (h : (((g 7 4) ≤ x2 → Q x1 g) ∧ (¬ (g 7 4) ≤ x2 → vp_in x2 8 ∧ vp_in (g 10 (x2).toNatClampNeg) 16 ∧ Hw_rowLength_4 (x1 + (g 5 (g 10 (x2).toNatClampNeg).toNatClampNeg)) (x2 + 1) g Q))) : Hw_rowLength_4 x1 x2 g Q := by
  refine e_iload_n (dx D_w_rowLength 4 rfl) rfl ?_
  refine e_aload_n (dx D_w_rowLength 5 rfl) rfl ?_
  refine e_getI (dx D_w_rowLength 6 rfl) fl_RX7_38 rfl rfl ?_
  refine e_icmp_ge (tgt := 35) (dx D_w_rowLength 7 rfl) (by decide) (fun c => ?_) (fun c => ?_)
  · replace h := h.1 c
    refine e_iload_n (dx D_w_rowLength 21 rfl) rfl ?_
    exact e_iret (dx D_w_rowLength 22 rfl) rfl rfl ⟨_, rfl, h⟩
  · replace h := h.2 c
    refine e_iload_n (dx D_w_rowLength 8 rfl) rfl ?_
    refine e_aload_n (dx D_w_rowLength 9 rfl) rfl ?_
    refine e_getR (dx D_w_rowLength 10 rfl) fl_RX7_21 rfl rfl ?_
    refine e_getR (dx D_w_rowLength 11 rfl) fl_RX7_71 rfl rfl ?_
    refine e_aload_n (dx D_w_rowLength 12 rfl) rfl ?_
    refine e_getR (dx D_w_rowLength 13 rfl) fl_RX7_18 rfl rfl ?_
    refine e_iload_n (dx D_w_rowLength 14 rfl) rfl ?_
    obtain ⟨hb1, h⟩ := h
    refine e_iald (dx D_w_rowLength 15 rfl) rfl hb1 ?_
    obtain ⟨hb2, h⟩ := h
    refine e_iald (dx D_w_rowLength 16 rfl) rfl hb2 ?_
    refine e_iadd (dx D_w_rowLength 17 rfl) ?_
    refine q_istore_n (L' := [some (.ref 7), some (.int (x1 + (g 5 (g 10 (x2).toNatClampNeg).toNatClampNeg))), some (.int x2)]) (dx D_w_rowLength 18 rfl) (by decide) rfl ?_
    refine q_iinc (d := 1) (L' := [some (.ref 7), some (.int (x1 + (g 5 (g 10 (x2).toNatClampNeg).toNatClampNeg))), some (.int (x2 + 1))]) (dx D_w_rowLength 19 rfl) rfl (by decide) (by decide) rfl ?_
    refine e_goto (tgt := 4) (dx D_w_rowLength 20 rfl) (by decide) ?_
    exact h
abbrev Cw_roomInRow (g : Sg) (Q : Int32 → Sg → Prop) : Prop := Ci Mw_roomInRow [.ref 7] g Q
abbrev Hw_roomInRow_10 (x1 : Int32) (x2 : Int32) (g : Sg) (Q : Int32 → Sg → Prop) : Prop := Hi Mw_roomInRow 10 [some (.ref 7), some (.int x1), some (.int x2)] [] g Q
set_option maxRecDepth 20000 in
theorem Vw_roomInRow {g : Sg} {Q : Int32 → Sg → Prop} (h : Hw_roomInRow_10 (g 1 10) 0 g Q) : Cw_roomInRow g Q := by
  refine Cl.of 2 pl_X7 rfl ?_
  refine e_aload_n (dx D_w_roomInRow 0 rfl) rfl ?_
  refine e_getR (dx D_w_roomInRow 1 rfl) fl_RX7_21 rfl rfl ?_
  refine e_getI (dx D_w_roomInRow 2 rfl) fl_RX7_31 rfl rfl ?_
  refine q_istore_n (L' := [some (.ref 7), some (.int (g 1 10)), none]) (dx D_w_roomInRow 3 rfl) (by decide) rfl ?_
  refine q_iconst (v := 0) (dx D_w_roomInRow 4 rfl) (by decide) ?_
  refine q_istore_n (L' := [some (.ref 7), some (.int (g 1 10)), some (.int 0)]) (dx D_w_roomInRow 5 rfl) (by decide) rfl ?_
  exact h
set_option maxRecDepth 20000 in
theorem Vw_roomInRow_10 {x1 : Int32} {x2 : Int32} {g : Sg} {Q : Int32 → Sg → Prop} (h : (((g 7 4) ≤ x2 → Q x1 g) ∧ (¬ (g 7 4) ≤ x2 → vp_in x2 8 ∧ vp_in (g 10 (x2).toNatClampNeg) 16 ∧ Hw_roomInRow_10 (if ((g 1 10) - (g 8 (g 10 (x2).toNatClampNeg).toNatClampNeg)) < x1 then ((g 1 10) - (g 8 (g 10 (x2).toNatClampNeg).toNatClampNeg)) else x1) (x2 + 1) g Q))) : Hw_roomInRow_10 x1 x2 g Q := by
  refine e_iload_n (dx D_w_roomInRow 6 rfl) rfl ?_
  refine e_aload_n (dx D_w_roomInRow 7 rfl) rfl ?_
  refine e_getI (dx D_w_roomInRow 8 rfl) fl_RX7_38 rfl rfl ?_
  refine e_icmp_ge (tgt := 48) (dx D_w_roomInRow 9 rfl) (by decide) (fun c => ?_) (fun c => ?_)
  · replace h := h.1 c
    refine e_iload_n (dx D_w_roomInRow 26 rfl) rfl ?_
    exact e_iret (dx D_w_roomInRow 27 rfl) rfl rfl ⟨_, rfl, h⟩
  · replace h := h.2 c
    refine e_iload_n (dx D_w_roomInRow 10 rfl) rfl ?_
    refine e_aload_n (dx D_w_roomInRow 11 rfl) rfl ?_
    refine e_getR (dx D_w_roomInRow 12 rfl) fl_RX7_21 rfl rfl ?_
    refine e_getI (dx D_w_roomInRow 13 rfl) fl_RX7_31 rfl rfl ?_
    refine e_aload_n (dx D_w_roomInRow 14 rfl) rfl ?_
    refine e_getR (dx D_w_roomInRow 15 rfl) fl_RX7_9 rfl rfl ?_
    refine e_aload_n (dx D_w_roomInRow 16 rfl) rfl ?_
    refine e_getR (dx D_w_roomInRow 17 rfl) fl_RX7_18 rfl rfl ?_
    refine e_iload_n (dx D_w_roomInRow 18 rfl) rfl ?_
    obtain ⟨hb1, h⟩ := h
    refine e_iald (dx D_w_roomInRow 19 rfl) rfl hb1 ?_
    obtain ⟨hb2, h⟩ := h
    refine e_iald (dx D_w_roomInRow 20 rfl) rfl hb2 ?_
    refine e_isub (dx D_w_roomInRow 21 rfl) ?_
    refine e_mmin (dx D_w_roomInRow 22 rfl) mk_RX7_91 (by decide) (Nat.le_of_ble_eq_true rfl) ?_
    refine q_istore_n (L' := [some (.ref 7), some (.int (if ((g 1 10) - (g 8 (g 10 (x2).toNatClampNeg).toNatClampNeg)) < x1 then ((g 1 10) - (g 8 (g 10 (x2).toNatClampNeg).toNatClampNeg)) else x1)), some (.int x2)]) (dx D_w_roomInRow 23 rfl) (by decide) rfl ?_
    refine q_iinc (d := 1) (L' := [some (.ref 7), some (.int (if ((g 1 10) - (g 8 (g 10 (x2).toNatClampNeg).toNatClampNeg)) < x1 then ((g 1 10) - (g 8 (g 10 (x2).toNatClampNeg).toNatClampNeg)) else x1)), some (.int (x2 + 1))]) (dx D_w_roomInRow 24 rfl) rfl (by decide) (by decide) rfl ?_
    refine e_goto (tgt := 10) (dx D_w_roomInRow 25 rfl) (by decide) ?_
    exact h
abbrev Cw_drawAll (x1 : Int32) (x2 : Int32) (g : Sg) (Q : Int32 → Sg → Prop) : Prop := Ci Mw_drawAll [.ref 7, .int x1, .int x2] g Q
abbrev Hw_drawAll_5 (x1 : Int32) (x2 : Int32) (x3 : Int32) (x4 : Int32) (g : Sg) (Q : Int32 → Sg → Prop) : Prop := Hi Mw_drawAll 5 [some (.ref 7), some (.int x1), some (.int x2), some (.int x3), some (.int x4), none] [] g Q
set_option maxRecDepth 20000 in
theorem Vw_drawAll {x1 : Int32} {x2 : Int32} {g : Sg} {Q : Int32 → Sg → Prop} (h : Hw_drawAll_5 x1 x2 0 0 g Q) : Cw_drawAll x1 x2 g Q := by
  refine Cl.of 3 pl_X7 rfl ?_
  refine q_iconst (v := 0) (dx D_w_drawAll 0 rfl) (by decide) ?_
  refine q_istore_n (L' := [some (.ref 7), some (.int x1), some (.int x2), some (.int 0), none, none]) (dx D_w_drawAll 1 rfl) (by decide) rfl ?_
  refine q_iconst (v := 0) (dx D_w_drawAll 2 rfl) (by decide) ?_
  refine q_istore (L' := [some (.ref 7), some (.int x1), some (.int x2), some (.int 0), some (.int 0), none]) (dx D_w_drawAll 3 rfl) (by decide) rfl ?_
  exact h
set_option maxRecDepth 20000 in
theorem Vw_drawAll_5 {x1 : Int32} {x2 : Int32} {x3 : Int32} {x4 : Int32} {g : Sg} {Q : Int32 → Sg → Prop} (h : ((16 < x4 → Q x3 g) ∧ (¬ 16 < x4 → Cw_find x1 x2 g (fun r2 g1 => ((r2 = 0 → Q x3 g1) ∧ (¬ r2 = 0 → Cw_roomInRow g1 (fun r4 g3 => Cw_drawAlongRow r4 g3 (fun g5 => Hw_drawAll_5 x1 x2 (x3 + r4) (x4 + 1) g5 Q)))))))) : Hw_drawAll_5 x1 x2 x3 x4 g Q := by
  refine e_iload (dx D_w_drawAll 4 rfl) rfl ?_
  refine q_bipush (v := 16) (dx D_w_drawAll 5 rfl) (by decide) ?_
  refine e_icmp_gt (tgt := 47) (dx D_w_drawAll 6 rfl) (by decide) (fun c => ?_) (fun c => ?_)
  · replace h := h.1 c
    refine e_iload_n (dx D_w_drawAll 25 rfl) rfl ?_
    exact e_iret (dx D_w_drawAll 26 rfl) rfl rfl ⟨_, rfl, h⟩
  · replace h := h.2 c
    refine e_aload_n (dx D_w_drawAll 7 rfl) rfl ?_
    refine e_iload_n (dx D_w_drawAll 8 rfl) rfl ?_
    refine e_iload_n (dx D_w_drawAll 9 rfl) rfl ?_
    refine e_callVi (rest := []) [.int x1, .int x2] (dx D_w_drawAll 10 rfl) ln_w_drawAll_81 rfl rfl rfl (Nat.le_of_ble_eq_true rfl) h (fun r2 g1 h => ?_)
    refine e_if_ne (tgt := 24) (dx D_w_drawAll 11 rfl) (by decide) (fun c => ?_) (fun c => ?_)
    · replace h := h.2 c
      refine e_aload_n (dx D_w_drawAll 13 rfl) rfl ?_
      refine e_callVi (rest := []) [] (dx D_w_drawAll 14 rfl) ln_w_drawAll_84 rfl rfl rfl (Nat.le_of_ble_eq_true rfl) h (fun r4 g3 h => ?_)
      refine q_istore (L' := [some (.ref 7), some (.int x1), some (.int x2), some (.int x3), some (.int x4), some (.int r4)]) (dx D_w_drawAll 15 rfl) (by decide) rfl ?_
      refine e_aload_n (dx D_w_drawAll 16 rfl) rfl ?_
      refine e_iload (dx D_w_drawAll 17 rfl) rfl ?_
      refine e_callVv (rest := []) [.int r4] (dx D_w_drawAll 18 rfl) ln_w_drawAll_88 rfl rfl rfl (Nat.le_of_ble_eq_true rfl) h (fun g5 h => ?_)
      refine e_iload_n (dx D_w_drawAll 19 rfl) rfl ?_
      refine e_iload (dx D_w_drawAll 20 rfl) rfl ?_
      refine e_iadd (dx D_w_drawAll 21 rfl) ?_
      refine q_istore_n (L' := [some (.ref 7), some (.int x1), some (.int x2), some (.int (x3 + r4)), some (.int x4), some (.int r4)]) (dx D_w_drawAll 22 rfl) (by decide) rfl ?_
      refine q_iinc (d := 1) (L' := [some (.ref 7), some (.int x1), some (.int x2), some (.int (x3 + r4)), some (.int (x4 + 1)), some (.int r4)]) (dx D_w_drawAll 23 rfl) rfl (by decide) (by decide) rfl ?_
      refine e_goto (tgt := 5) (dx D_w_drawAll 24 rfl) (by decide) ?_
      exact Wp.mask [true, true, true, true, true, false] h
    · replace h := h.1 c
      refine e_goto (tgt := 47) (dx D_w_drawAll 12 rfl) (by decide) ?_
      refine e_iload_n (dx D_w_drawAll 25 rfl) rfl ?_
      exact e_iret (dx D_w_drawAll 26 rfl) rfl rfl ⟨_, rfl, h⟩
abbrev Cx_type (x1 : Int32) (g : Sg) (Q : Int32 → Sg → Prop) : Prop := Ci Mx_type [.ref 0, .int x1] g Q
set_option maxRecDepth 20000 in
theorem Vx_type {x1 : Int32} {g : Sg} {Q : Int32 → Sg → Prop} (h : (((0 ≤ x1 ∧ x1 ≤ 255) → (((g 1 5) < 79 → Cp_append x1 g (fun g1 => Cb_playFrom 0 g1 (fun g2 => Q (g2 1 5) g2))) ∧ (¬ (g 1 5) < 79 → Q (-4) g))) ∧ (¬ (0 ≤ x1 ∧ x1 ≤ 255) → Q (-2) g))) : Cx_type x1 g Q := by
  refine Cl.of 0 pl_X8 rfl ?_
  refine e_iload_n (dx D_x_type 0 rfl) rfl ?_
  refine q_iconst (v := 0) (dx D_x_type 1 rfl) (by decide) ?_
  refine q_sipush (v := 255) (dx D_x_type 2 rfl) (by decide) ?_
  refine e_callSi (Q1 := fun r g' => bP (0 ≤ x1 ∧ x1 ≤ 255) = r ∧ g = g') (rest := []) [.int x1, .int 0, .int 255] (dx D_x_type 3 rfl) ln_x_type_75 rfl rfl (Nat.le_of_ble_eq_true rfl) (Ix_within  ⟨rfl, rfl⟩) (fun r g' hh => ?_)
  obtain ⟨rfl, rfl⟩ := hh
  refine e_if_ne (tgt := 14) (dx D_x_type 4 rfl) (by decide) (fun c => ?_) (fun c => ?_)
  · replace h := h.1 (bP_n c)
    refine e_aload_n (dx D_x_type 7 rfl) rfl ?_
    refine e_getR (dx D_x_type 8 rfl) fl_RX8_10 rfl rfl ?_
    refine e_getI (dx D_x_type 9 rfl) fl_RX8_79 rfl rfl ?_
    refine q_bipush (v := 79) (dx D_x_type 10 rfl) (by decide) ?_
    refine e_icmp_lt (tgt := 29) (dx D_x_type 11 rfl) (by decide) (fun c => ?_) (fun c => ?_)
    · replace h := h.1 c
      refine e_aload_n (dx D_x_type 14 rfl) rfl ?_
      refine e_getR (dx D_x_type 15 rfl) fl_RX8_10 rfl rfl ?_
      refine e_iload_n (dx D_x_type 16 rfl) rfl ?_
      refine e_callVv (rest := []) [.int x1] (dx D_x_type 17 rfl) ln_x_type_82 rfl rfl rfl (Nat.le_of_ble_eq_true rfl) h (fun g1 h => ?_)
      refine e_aload_n (dx D_x_type 18 rfl) rfl ?_
      refine e_getR (dx D_x_type 19 rfl) fl_RX8_30 rfl rfl ?_
      refine q_iconst (v := 0) (dx D_x_type 20 rfl) (by decide) ?_
      refine e_callVv (rest := []) [.int 0] (dx D_x_type 21 rfl) ln_x_type_86 rfl rfl rfl (Nat.le_of_ble_eq_true rfl) h (fun g2 h => ?_)
      refine e_aload_n (dx D_x_type 22 rfl) rfl ?_
      refine e_getR (dx D_x_type 23 rfl) fl_RX8_10 rfl rfl ?_
      refine e_getI (dx D_x_type 24 rfl) fl_RX8_79 rfl rfl ?_
      exact e_iret (dx D_x_type 25 rfl) rfl rfl ⟨_, rfl, h⟩
    · replace h := h.2 c
      refine q_bipush (v := (-4)) (dx D_x_type 12 rfl) (by decide) ?_
      exact e_iret (dx D_x_type 13 rfl) rfl rfl ⟨_, rfl, h⟩
  · replace h := h.2 (bP_z c)
    refine q_bipush (v := (-2)) (dx D_x_type 5 rfl) (by decide) ?_
    exact e_iret (dx D_x_type 6 rfl) rfl rfl ⟨_, rfl, h⟩
abbrev Cx_wipe (g : Sg) (Q : Int32 → Sg → Prop) : Prop := Ci Mx_wipe [.ref 0] g Q
set_option maxRecDepth 20000 in
theorem Vx_wipe {g : Sg} {Q : Int32 → Sg → Prop} (h : Cp_clear g (fun g1 => Cb_playFrom 0 g1 (fun g2 => Q (g 1 5) g2))) : Cx_wipe g Q := by
  refine Cl.of 1 pl_X8 rfl ?_
  refine e_aload_n (dx D_x_wipe 0 rfl) rfl ?_
  refine e_getR (dx D_x_wipe 1 rfl) fl_RX8_10 rfl rfl ?_
  refine e_getI (dx D_x_wipe 2 rfl) fl_RX8_79 rfl rfl ?_
  refine q_istore_n (L' := [some (.ref 0), some (.int (g 1 5))]) (dx D_x_wipe 3 rfl) (by decide) rfl ?_
  refine e_aload_n (dx D_x_wipe 4 rfl) rfl ?_
  refine e_getR (dx D_x_wipe 5 rfl) fl_RX8_10 rfl rfl ?_
  refine e_callVv (rest := []) [] (dx D_x_wipe 6 rfl) ln_x_wipe_89 rfl rfl rfl (Nat.le_of_ble_eq_true rfl) h (fun g1 h => ?_)
  refine e_aload_n (dx D_x_wipe 7 rfl) rfl ?_
  refine e_getR (dx D_x_wipe 8 rfl) fl_RX8_30 rfl rfl ?_
  refine q_iconst (v := 0) (dx D_x_wipe 9 rfl) (by decide) ?_
  refine e_callVv (rest := []) [.int 0] (dx D_x_wipe 10 rfl) ln_x_wipe_86 rfl rfl rfl (Nat.le_of_ble_eq_true rfl) h (fun g2 h => ?_)
  refine e_iload_n (dx D_x_wipe 11 rfl) rfl ?_
  exact e_iret (dx D_x_wipe 12 rfl) rfl rfl ⟨_, rfl, h⟩
abbrev Cx_undo (g : Sg) (Q : Int32 → Sg → Prop) : Prop := Ci Mx_undo [.ref 0] g Q
set_option maxRecDepth 20000 in
theorem Vx_undo {g : Sg} {Q : Int32 → Sg → Prop} (h : (((g 1 8) = 0 → Q (-3) g) ∧ (¬ (g 1 8) = 0 → Cp_dropPipe g (fun g1 => Cb_playFrom 0 g1 (fun g2 => Q (g2 1 8) g2))))) : Cx_undo g Q := by
  refine Cl.of 0 pl_X8 rfl ?_
  refine e_aload_n (dx D_x_undo 0 rfl) rfl ?_
  refine e_getR (dx D_x_undo 1 rfl) fl_RX8_10 rfl rfl ?_
  refine e_getI (dx D_x_undo 2 rfl) fl_RX8_92 rfl rfl ?_
  refine e_if_ne (tgt := 13) (dx D_x_undo 3 rfl) (by decide) (fun c => ?_) (fun c => ?_)
  · replace h := h.2 c
    refine e_aload_n (dx D_x_undo 6 rfl) rfl ?_
    refine e_getR (dx D_x_undo 7 rfl) fl_RX8_10 rfl rfl ?_
    refine e_callVv (rest := []) [] (dx D_x_undo 8 rfl) ln_x_undo_95 rfl rfl rfl (Nat.le_of_ble_eq_true rfl) h (fun g1 h => ?_)
    refine e_aload_n (dx D_x_undo 9 rfl) rfl ?_
    refine e_getR (dx D_x_undo 10 rfl) fl_RX8_30 rfl rfl ?_
    refine q_iconst (v := 0) (dx D_x_undo 11 rfl) (by decide) ?_
    refine e_callVv (rest := []) [.int 0] (dx D_x_undo 12 rfl) ln_x_undo_86 rfl rfl rfl (Nat.le_of_ble_eq_true rfl) h (fun g2 h => ?_)
    refine e_aload_n (dx D_x_undo 13 rfl) rfl ?_
    refine e_getR (dx D_x_undo 14 rfl) fl_RX8_10 rfl rfl ?_
    refine e_getI (dx D_x_undo 15 rfl) fl_RX8_92 rfl rfl ?_
    exact e_iret (dx D_x_undo 16 rfl) rfl rfl ⟨_, rfl, h⟩
  · replace h := h.1 c
    refine q_bipush (v := (-3)) (dx D_x_undo 4 rfl) (by decide) ?_
    exact e_iret (dx D_x_undo 5 rfl) rfl rfl ⟨_, rfl, h⟩
abbrev Cx_fault (g : Sg) (Q : Int32 → Sg → Prop) : Prop := Ci Mx_fault [.ref 0] g Q
set_option maxRecDepth 20000 in
theorem Vx_fault {g : Sg} {Q : Int32 → Sg → Prop} (h : Q (g 1 7) g) : Cx_fault g Q := by
  refine Cl.of 0 pl_X8 rfl ?_
  refine e_aload_n (dx D_x_fault 0 rfl) rfl ?_
  refine e_getR (dx D_x_fault 1 rfl) fl_RX8_10 rfl rfl ?_
  refine e_getI (dx D_x_fault 2 rfl) fl_RX8_98 rfl rfl ?_
  exact e_iret (dx D_x_fault 3 rfl) rfl rfl ⟨_, rfl, h⟩
abbrev Cx_pipe (x1 : Int32) (x2 : Int32) (g : Sg) (Q : Int32 → Sg → Prop) : Prop := Ci Mx_pipe [.ref 0, .int x1, .int x2] g Q
set_option maxRecDepth 20000 in
theorem Vx_pipe {x1 : Int32} {x2 : Int32} {g : Sg} {Q : Int32 → Sg → Prop} (h : (((0 ≤ x1 ∧ x1 ≤ g 1 8 - 1) → (((x2).toInt < 0 ∨ 4 < (x2).toInt → Q (-2) g) ∧ (x2 = 0 → vp_in x1 16 ∧ Q (g 3 (x1).toNatClampNeg) g) ∧ (x2 = 1 → vp_in x1 16 ∧ Q (g 4 (x1).toNatClampNeg) g) ∧ (x2 = 2 → vp_in x1 16 ∧ Q (g 5 (x1).toNatClampNeg) g) ∧ (x2 = 3 → vp_in x1 16 ∧ Q (g 6 (x1).toNatClampNeg) g) ∧ (x2 = 4 → vp_in (g 11 6) 17 ∧ Cb_wiresIn x1 (g 14 (g 11 6).toNatClampNeg) g (fun r7 g6 => Q r7 g6)))) ∧ (¬ (0 ≤ x1 ∧ x1 ≤ g 1 8 - 1) → Q (-2) g))) : Cx_pipe x1 x2 g Q := by
  refine Cl.of 0 pl_X8 rfl ?_
  refine e_aload_n (dx D_x_pipe 0 rfl) rfl ?_
  refine e_getR (dx D_x_pipe 1 rfl) fl_RX8_10 rfl rfl ?_
  refine e_iload_n (dx D_x_pipe 2 rfl) rfl ?_
  refine e_callVi (Q1 := fun r g' => bP (0 ≤ x1 ∧ x1 ≤ g 1 8 - 1) = r ∧ g = g') (rest := []) [.int x1] (dx D_x_pipe 3 rfl) ln_x_pipe_101 rfl rfl rfl (Nat.le_of_ble_eq_true rfl) (Ip_hasPipe  ⟨rfl, rfl⟩) (fun r g' hh => ?_)
  obtain ⟨rfl, rfl⟩ := hh
  refine e_if_ne (tgt := 14) (dx D_x_pipe 4 rfl) (by decide) (fun c => ?_) (fun c => ?_)
  · replace h := h.1 (bP_n c)
    refine e_iload_n (dx D_x_pipe 7 rfl) rfl ?_
    refine q_tbl [48, 58, 68, 78, 88] 104 (dx D_x_pipe 8 rfl) (by decide) (by decide) (by decide) (fun c => ?_) (fun i t ht c => ?_)
    · replace h := h.1 c
      refine q_bipush (v := (-2)) (dx D_x_pipe 41 rfl) (by decide) ?_
      exact e_iret (dx D_x_pipe 42 rfl) rfl rfl ⟨_, rfl, h⟩
    · match i, ht, c with
      | 0, ht, c =>
        cases ht; replace h := h.2.1 (tb_eq c (by decide))
        refine e_aload_n (dx D_x_pipe 9 rfl) rfl ?_
        refine e_getR (dx D_x_pipe 10 rfl) fl_RX8_10 rfl rfl ?_
        refine e_getR (dx D_x_pipe 11 rfl) fl_RX8_105 rfl rfl ?_
        refine e_iload_n (dx D_x_pipe 12 rfl) rfl ?_
        obtain ⟨hb1, h⟩ := h
        refine e_iald (dx D_x_pipe 13 rfl) rfl hb1 ?_
        exact e_iret (dx D_x_pipe 14 rfl) rfl rfl ⟨_, rfl, h⟩
      | 1, ht, c =>
        cases ht; replace h := h.2.2.1 (tb_eq c (by decide))
        refine e_aload_n (dx D_x_pipe 15 rfl) rfl ?_
        refine e_getR (dx D_x_pipe 16 rfl) fl_RX8_10 rfl rfl ?_
        refine e_getR (dx D_x_pipe 17 rfl) fl_RX8_109 rfl rfl ?_
        refine e_iload_n (dx D_x_pipe 18 rfl) rfl ?_
        obtain ⟨hb2, h⟩ := h
        refine e_iald (dx D_x_pipe 19 rfl) rfl hb2 ?_
        exact e_iret (dx D_x_pipe 20 rfl) rfl rfl ⟨_, rfl, h⟩
      | 2, ht, c =>
        cases ht; replace h := h.2.2.2.1 (tb_eq c (by decide))
        refine e_aload_n (dx D_x_pipe 21 rfl) rfl ?_
        refine e_getR (dx D_x_pipe 22 rfl) fl_RX8_10 rfl rfl ?_
        refine e_getR (dx D_x_pipe 23 rfl) fl_RX8_112 rfl rfl ?_
        refine e_iload_n (dx D_x_pipe 24 rfl) rfl ?_
        obtain ⟨hb3, h⟩ := h
        refine e_iald (dx D_x_pipe 25 rfl) rfl hb3 ?_
        exact e_iret (dx D_x_pipe 26 rfl) rfl rfl ⟨_, rfl, h⟩
      | 3, ht, c =>
        cases ht; replace h := h.2.2.2.2.1 (tb_eq c (by decide))
        refine e_aload_n (dx D_x_pipe 27 rfl) rfl ?_
        refine e_getR (dx D_x_pipe 28 rfl) fl_RX8_10 rfl rfl ?_
        refine e_getR (dx D_x_pipe 29 rfl) fl_RX8_115 rfl rfl ?_
        refine e_iload_n (dx D_x_pipe 30 rfl) rfl ?_
        obtain ⟨hb4, h⟩ := h
        refine e_iald (dx D_x_pipe 31 rfl) rfl hb4 ?_
        exact e_iret (dx D_x_pipe 32 rfl) rfl rfl ⟨_, rfl, h⟩
      | 4, ht, c =>
        cases ht; replace h := h.2.2.2.2.2 (tb_eq c (by decide))
        refine e_aload_n (dx D_x_pipe 33 rfl) rfl ?_
        refine e_getR (dx D_x_pipe 34 rfl) fl_RX8_30 rfl rfl ?_
        refine e_iload_n (dx D_x_pipe 35 rfl) rfl ?_
        refine e_aload_n (dx D_x_pipe 36 rfl) rfl ?_
        refine e_getR (dx D_x_pipe 37 rfl) fl_RX8_30 rfl rfl ?_
        obtain ⟨hb5, h⟩ := h
        refine e_callVi (Q1 := fun r g' => (g 14 (g 11 6).toNatClampNeg) = r ∧ g = g') (rest := [.int x1, .ref 11]) [] (dx D_x_pipe 38 rfl) ln_x_pipe_118 rfl rfl rfl (Nat.le_of_ble_eq_true rfl) (Ib_lyingNow hb5 ⟨rfl, rfl⟩) (fun r g' hh => ?_)
        obtain ⟨rfl, rfl⟩ := hh
        refine e_callVi (rest := []) [.int x1, .int (g 14 (g 11 6).toNatClampNeg)] (dx D_x_pipe 39 rfl) ln_x_pipe_122 rfl rfl rfl (Nat.le_of_ble_eq_true rfl) h (fun r7 g6 h => ?_)
        exact e_iret (dx D_x_pipe 40 rfl) rfl rfl ⟨_, rfl, h⟩
      | n + 5, ht, c => simp at ht
  · replace h := h.2 (bP_z c)
    refine q_bipush (v := (-2)) (dx D_x_pipe 5 rfl) (by decide) ?_
    exact e_iret (dx D_x_pipe 6 rfl) rfl rfl ⟨_, rfl, h⟩
abbrev Cx_setShut (x1 : Int32) (g : Sg) (Q : Int32 → Sg → Prop) : Prop := Ci Mx_setShut [.ref 0, .int x1] g Q
set_option maxRecDepth 20000 in
theorem Vx_setShut {x1 : Int32} {g : Sg} {Q : Int32 → Sg → Prop} (h : Cb_playFrom 0 (sgU g 1 9 x1) (fun g1 => Q (g 1 9) g1)) : Cx_setShut x1 g Q := by
  refine Cl.of 1 pl_X8 rfl ?_
  refine e_aload_n (dx D_x_setShut 0 rfl) rfl ?_
  refine e_getR (dx D_x_setShut 1 rfl) fl_RX8_10 rfl rfl ?_
  refine e_getI (dx D_x_setShut 2 rfl) fl_RX8_137 rfl rfl ?_
  refine q_istore_n (L' := [some (.ref 0), some (.int x1), some (.int (g 1 9))]) (dx D_x_setShut 3 rfl) (by decide) rfl ?_
  refine e_aload_n (dx D_x_setShut 4 rfl) rfl ?_
  refine e_getR (dx D_x_setShut 5 rfl) fl_RX8_10 rfl rfl ?_
  refine e_iload_n (dx D_x_setShut 6 rfl) rfl ?_
  refine e_putI (dx D_x_setShut 7 rfl) fp_RX8_137 rfl rfl ?_
  refine e_aload_n (dx D_x_setShut 8 rfl) rfl ?_
  refine e_getR (dx D_x_setShut 9 rfl) fl_RX8_30 rfl rfl ?_
  refine q_iconst (v := 0) (dx D_x_setShut 10 rfl) (by decide) ?_
  refine e_callVv (rest := []) [.int 0] (dx D_x_setShut 11 rfl) ln_x_setShut_86 rfl rfl rfl (Nat.le_of_ble_eq_true rfl) h (fun g1 h => ?_)
  refine e_iload_n (dx D_x_setShut 12 rfl) rfl ?_
  exact e_iret (dx D_x_setShut 13 rfl) rfl rfl ⟨_, rfl, h⟩
abbrev Cx_setTakes (x1 : Int32) (g : Sg) (Q : Int32 → Sg → Prop) : Prop := Ci Mx_setTakes [.ref 0, .int x1] g Q
set_option maxRecDepth 20000 in
theorem Vx_setTakes {x1 : Int32} {g : Sg} {Q : Int32 → Sg → Prop} (h : Cb_playFrom 0 (sgU g 1 10 x1) (fun g1 => Q (g 1 10) g1)) : Cx_setTakes x1 g Q := by
  refine Cl.of 1 pl_X8 rfl ?_
  refine e_aload_n (dx D_x_setTakes 0 rfl) rfl ?_
  refine e_getR (dx D_x_setTakes 1 rfl) fl_RX8_10 rfl rfl ?_
  refine e_getI (dx D_x_setTakes 2 rfl) fl_RX8_140 rfl rfl ?_
  refine q_istore_n (L' := [some (.ref 0), some (.int x1), some (.int (g 1 10))]) (dx D_x_setTakes 3 rfl) (by decide) rfl ?_
  refine e_aload_n (dx D_x_setTakes 4 rfl) rfl ?_
  refine e_getR (dx D_x_setTakes 5 rfl) fl_RX8_10 rfl rfl ?_
  refine e_iload_n (dx D_x_setTakes 6 rfl) rfl ?_
  refine e_putI (dx D_x_setTakes 7 rfl) fp_RX8_140 rfl rfl ?_
  refine e_aload_n (dx D_x_setTakes 8 rfl) rfl ?_
  refine e_getR (dx D_x_setTakes 9 rfl) fl_RX8_30 rfl rfl ?_
  refine q_iconst (v := 0) (dx D_x_setTakes 10 rfl) (by decide) ?_
  refine e_callVv (rest := []) [.int 0] (dx D_x_setTakes 11 rfl) ln_x_setTakes_86 rfl rfl rfl (Nat.le_of_ble_eq_true rfl) h (fun g1 h => ?_)
  refine e_iload_n (dx D_x_setTakes 12 rfl) rfl ?_
  exact e_iret (dx D_x_setTakes 13 rfl) rfl rfl ⟨_, rfl, h⟩
abbrev Cx_setHard (x1 : Int32) (g : Sg) (Q : Int32 → Sg → Prop) : Prop := Ci Mx_setHard [.ref 0, .int x1] g Q
set_option maxRecDepth 20000 in
theorem Vx_setHard {x1 : Int32} {g : Sg} {Q : Int32 → Sg → Prop} (h : Q (g 0 8) (sgU g 0 8 x1)) : Cx_setHard x1 g Q := by
  refine Cl.of 1 pl_X8 rfl ?_
  refine e_aload_n (dx D_x_setHard 0 rfl) rfl ?_
  refine e_getI (dx D_x_setHard 1 rfl) fl_RX8_71 rfl rfl ?_
  refine q_istore_n (L' := [some (.ref 0), some (.int x1), some (.int (g 0 8))]) (dx D_x_setHard 2 rfl) (by decide) rfl ?_
  refine e_aload_n (dx D_x_setHard 3 rfl) rfl ?_
  refine e_iload_n (dx D_x_setHard 4 rfl) rfl ?_
  refine e_putI (dx D_x_setHard 5 rfl) fp_RX8_71 rfl rfl ?_
  refine e_iload_n (dx D_x_setHard 6 rfl) rfl ?_
  exact e_iret (dx D_x_setHard 7 rfl) rfl rfl ⟨_, rfl, h⟩
abbrev Cx_set (x1 : Int32) (x2 : Int32) (g : Sg) (Q : Int32 → Sg → Prop) : Prop := Ci Mx_set [.ref 0, .int x1, .int x2] g Q
set_option maxRecDepth 20000 in
theorem Vx_set {x1 : Int32} {x2 : Int32} {g : Sg} {Q : Int32 → Sg → Prop} (h : (((x1).toInt < 0 ∨ 2 < (x1).toInt → Q (-2) g) ∧ (x1 = 0 → (((0 ≤ x2 ∧ x2 ≤ 65535) → Cx_setShut x2 g (fun r2 g1 => Q r2 g1)) ∧ (¬ (0 ≤ x2 ∧ x2 ≤ 65535) → Q (-2) g))) ∧ (x1 = 1 → (((1 ≤ x2 ∧ x2 ≤ 4) → Cx_setTakes x2 g (fun r4 g3 => Q r4 g3)) ∧ (¬ (1 ≤ x2 ∧ x2 ≤ 4) → Q (-2) g))) ∧ (x1 = 2 → (((1 ≤ x2 ∧ x2 ≤ 999) → Cx_setHard x2 g (fun r6 g5 => Q r6 g5)) ∧ (¬ (1 ≤ x2 ∧ x2 ≤ 999) → Q (-2) g))))) : Cx_set x1 x2 g Q := by
  refine Cl.of 0 pl_X8 rfl ?_
  refine e_iload_n (dx D_x_set 0 rfl) rfl ?_
  refine q_tbl [28, 49, 69] 91 (dx D_x_set 1 rfl) (by decide) (by decide) (by decide) (fun c => ?_) (fun i t ht c => ?_)
  · replace h := h.1 c
    refine q_bipush (v := (-2)) (dx D_x_set 35 rfl) (by decide) ?_
    exact e_iret (dx D_x_set 36 rfl) rfl rfl ⟨_, rfl, h⟩
  · match i, ht, c with
    | 0, ht, c =>
      cases ht; replace h := h.2.1 (tb_eq c (by decide))
      refine e_iload_n (dx D_x_set 2 rfl) rfl ?_
      refine q_iconst (v := 0) (dx D_x_set 3 rfl) (by decide) ?_
      refine e_ldc (v := 65535) (dx D_x_set 4 rfl) k498 ?_
      refine e_callSi (Q1 := fun r g' => bP (0 ≤ x2 ∧ x2 ≤ 65535) = r ∧ g = g') (rest := []) [.int x2, .int 0, .int 65535] (dx D_x_set 5 rfl) ln_x_set_75 rfl rfl (Nat.le_of_ble_eq_true rfl) (Ix_within  ⟨rfl, rfl⟩) (fun r g' hh => ?_)
      obtain ⟨rfl, rfl⟩ := hh
      refine e_if_eq (tgt := 46) (dx D_x_set 6 rfl) (by decide) (fun c => ?_) (fun c => ?_)
      · replace h := h.2 (bP_z c)
        refine q_bipush (v := (-2)) (dx D_x_set 11 rfl) (by decide) ?_
        exact e_iret (dx D_x_set 12 rfl) rfl rfl ⟨_, rfl, h⟩
      · replace h := h.1 (bP_n c)
        refine e_aload_n (dx D_x_set 7 rfl) rfl ?_
        refine e_iload_n (dx D_x_set 8 rfl) rfl ?_
        refine e_callVi (rest := []) [.int x2] (dx D_x_set 9 rfl) ln_x_set_127 rfl rfl rfl (Nat.le_of_ble_eq_true rfl) h (fun r2 g1 h => ?_)
        refine e_goto (tgt := 48) (dx D_x_set 10 rfl) (by decide) ?_
        exact e_iret (dx D_x_set 12 rfl) rfl rfl ⟨_, rfl, h⟩
    | 1, ht, c =>
      cases ht; replace h := h.2.2.1 (tb_eq c (by decide))
      refine e_iload_n (dx D_x_set 13 rfl) rfl ?_
      refine q_iconst (v := 1) (dx D_x_set 14 rfl) (by decide) ?_
      refine q_iconst (v := 4) (dx D_x_set 15 rfl) (by decide) ?_
      refine e_callSi (Q1 := fun r g' => bP (1 ≤ x2 ∧ x2 ≤ 4) = r ∧ g = g') (rest := []) [.int x2, .int 1, .int 4] (dx D_x_set 16 rfl) ln_x_set_75 rfl rfl (Nat.le_of_ble_eq_true rfl) (Ix_within  ⟨rfl, rfl⟩) (fun r g' hh => ?_)
      obtain ⟨rfl, rfl⟩ := hh
      refine e_if_eq (tgt := 66) (dx D_x_set 17 rfl) (by decide) (fun c => ?_) (fun c => ?_)
      · replace h := h.2 (bP_z c)
        refine q_bipush (v := (-2)) (dx D_x_set 22 rfl) (by decide) ?_
        exact e_iret (dx D_x_set 23 rfl) rfl rfl ⟨_, rfl, h⟩
      · replace h := h.1 (bP_n c)
        refine e_aload_n (dx D_x_set 18 rfl) rfl ?_
        refine e_iload_n (dx D_x_set 19 rfl) rfl ?_
        refine e_callVi (rest := []) [.int x2] (dx D_x_set 20 rfl) ln_x_set_131 rfl rfl rfl (Nat.le_of_ble_eq_true rfl) h (fun r4 g3 h => ?_)
        refine e_goto (tgt := 68) (dx D_x_set 21 rfl) (by decide) ?_
        exact e_iret (dx D_x_set 23 rfl) rfl rfl ⟨_, rfl, h⟩
    | 2, ht, c =>
      cases ht; replace h := h.2.2.2 (tb_eq c (by decide))
      refine e_iload_n (dx D_x_set 24 rfl) rfl ?_
      refine q_iconst (v := 1) (dx D_x_set 25 rfl) (by decide) ?_
      refine q_sipush (v := 999) (dx D_x_set 26 rfl) (by decide) ?_
      refine e_callSi (Q1 := fun r g' => bP (1 ≤ x2 ∧ x2 ≤ 999) = r ∧ g = g') (rest := []) [.int x2, .int 1, .int 999] (dx D_x_set 27 rfl) ln_x_set_75 rfl rfl (Nat.le_of_ble_eq_true rfl) (Ix_within  ⟨rfl, rfl⟩) (fun r g' hh => ?_)
      obtain ⟨rfl, rfl⟩ := hh
      refine e_if_eq (tgt := 88) (dx D_x_set 28 rfl) (by decide) (fun c => ?_) (fun c => ?_)
      · replace h := h.2 (bP_z c)
        refine q_bipush (v := (-2)) (dx D_x_set 33 rfl) (by decide) ?_
        exact e_iret (dx D_x_set 34 rfl) rfl rfl ⟨_, rfl, h⟩
      · replace h := h.1 (bP_n c)
        refine e_aload_n (dx D_x_set 29 rfl) rfl ?_
        refine e_iload_n (dx D_x_set 30 rfl) rfl ?_
        refine e_callVi (rest := []) [.int x2] (dx D_x_set 31 rfl) ln_x_set_134 rfl rfl rfl (Nat.le_of_ble_eq_true rfl) h (fun r6 g5 h => ?_)
        refine e_goto (tgt := 90) (dx D_x_set 32 rfl) (by decide) ?_
        exact e_iret (dx D_x_set 34 rfl) rfl rfl ⟨_, rfl, h⟩
    | n + 3, ht, c => simp at ht
abbrev Cx_letIn (x1 : Int32) (x2 : Int32) (g : Sg) (Q : Int32 → Sg → Prop) : Prop := Ci Mx_letIn [.ref 0, .int x1, .int x2] g Q
set_option maxRecDepth 20000 in
theorem Vx_letIn {x1 : Int32} {x2 : Int32} {g : Sg} {Q : Int32 → Sg → Prop} (h : (((twoE x1 x2) → Cb_add x1 x2 g (fun r2 g1 => Q r2 g1)) ∧ (¬ (twoE x1 x2) → Q (-2) g))) : Cx_letIn x1 x2 g Q := by
  refine Cl.of 0 pl_X8 rfl ?_
  refine e_iload_n (dx D_x_letIn 0 rfl) rfl ?_
  refine e_iload_n (dx D_x_letIn 1 rfl) rfl ?_
  refine e_callSi (Q1 := fun r g' => bP (twoE x1 x2) = r ∧ g = g') (rest := []) [.int x1, .int x2] (dx D_x_letIn 2 rfl) ln_x_letIn_143 rfl rfl (Nat.le_of_ble_eq_true rfl) (Ix_areTwoEnds  ⟨rfl, rfl⟩) (fun r g' hh => ?_)
  obtain ⟨rfl, rfl⟩ := hh
  refine e_if_ne (tgt := 11) (dx D_x_letIn 3 rfl) (by decide) (fun c => ?_) (fun c => ?_)
  · replace h := h.1 (bP_n c)
    refine e_aload_n (dx D_x_letIn 6 rfl) rfl ?_
    refine e_getR (dx D_x_letIn 7 rfl) fl_RX8_30 rfl rfl ?_
    refine e_iload_n (dx D_x_letIn 8 rfl) rfl ?_
    refine e_iload_n (dx D_x_letIn 9 rfl) rfl ?_
    refine e_callVi (rest := []) [.int x1, .int x2] (dx D_x_letIn 10 rfl) ln_x_letIn_147 rfl rfl rfl (Nat.le_of_ble_eq_true rfl) h (fun r2 g1 h => ?_)
    exact e_iret (dx D_x_letIn 11 rfl) rfl rfl ⟨_, rfl, h⟩
  · replace h := h.2 (bP_z c)
    refine q_bipush (v := (-2)) (dx D_x_letIn 4 rfl) (by decide) ?_
    exact e_iret (dx D_x_letIn 5 rfl) rfl rfl ⟨_, rfl, h⟩
abbrev Cx_pull (x1 : Int32) (g : Sg) (Q : Int32 → Sg → Prop) : Prop := Ci Mx_pull [.ref 0, .int x1] g Q
set_option maxRecDepth 20000 in
theorem Vx_pull {x1 : Int32} {g : Sg} {Q : Int32 → Sg → Prop} (h : (((isW x1) → Cb_add (-1) x1 g (fun r2 g1 => Q r2 g1)) ∧ (¬ (isW x1) → Q (-2) g))) : Cx_pull x1 g Q := by
  refine Cl.of 0 pl_X8 rfl ?_
  refine e_iload_n (dx D_x_pull 0 rfl) rfl ?_
  refine e_callSi (Q1 := fun r g' => bP (isW x1) = r ∧ g = g') (rest := []) [.int x1] (dx D_x_pull 1 rfl) ln_x_pull_150 rfl rfl (Nat.le_of_ble_eq_true rfl) (Ix_isWire  ⟨rfl, rfl⟩) (fun r g' hh => ?_)
  obtain ⟨rfl, rfl⟩ := hh
  refine e_if_ne (tgt := 10) (dx D_x_pull 2 rfl) (by decide) (fun c => ?_) (fun c => ?_)
  · replace h := h.1 (bP_n c)
    refine e_aload_n (dx D_x_pull 5 rfl) rfl ?_
    refine e_getR (dx D_x_pull 6 rfl) fl_RX8_30 rfl rfl ?_
    refine q_iconst (v := (-1)) (dx D_x_pull 7 rfl) (by decide) ?_
    refine e_iload_n (dx D_x_pull 8 rfl) rfl ?_
    refine e_callVi (rest := []) [.int (-1), .int x1] (dx D_x_pull 9 rfl) ln_x_pull_147 rfl rfl rfl (Nat.le_of_ble_eq_true rfl) h (fun r2 g1 h => ?_)
    exact e_iret (dx D_x_pull 10 rfl) rfl rfl ⟨_, rfl, h⟩
  · replace h := h.2 (bP_z c)
    refine q_bipush (v := (-2)) (dx D_x_pull 3 rfl) (by decide) ?_
    exact e_iret (dx D_x_pull 4 rfl) rfl rfl ⟨_, rfl, h⟩
abbrev Cx_back (g : Sg) (Q : Int32 → Sg → Prop) : Prop := Ci Mx_back [.ref 0] g Q
set_option maxRecDepth 20000 in
theorem Vx_back {g : Sg} {Q : Int32 → Sg → Prop} (h : (((g 11 6) = 0 → Q (-3) g) ∧ (¬ (g 11 6) = 0 → Cb_dropStep g (fun g1 => Q (g1 11 6) g1)))) : Cx_back g Q := by
  refine Cl.of 0 pl_X8 rfl ?_
  refine e_aload_n (dx D_x_back 0 rfl) rfl ?_
  refine e_getR (dx D_x_back 1 rfl) fl_RX8_30 rfl rfl ?_
  refine e_getI (dx D_x_back 2 rfl) fl_RX8_153 rfl rfl ?_
  refine e_if_ne (tgt := 13) (dx D_x_back 3 rfl) (by decide) (fun c => ?_) (fun c => ?_)
  · replace h := h.2 c
    refine e_aload_n (dx D_x_back 6 rfl) rfl ?_
    refine e_getR (dx D_x_back 7 rfl) fl_RX8_30 rfl rfl ?_
    refine e_callVv (rest := []) [] (dx D_x_back 8 rfl) ln_x_back_154 rfl rfl rfl (Nat.le_of_ble_eq_true rfl) h (fun g1 h => ?_)
    refine e_aload_n (dx D_x_back 9 rfl) rfl ?_
    refine e_getR (dx D_x_back 10 rfl) fl_RX8_30 rfl rfl ?_
    refine e_getI (dx D_x_back 11 rfl) fl_RX8_153 rfl rfl ?_
    exact e_iret (dx D_x_back 12 rfl) rfl rfl ⟨_, rfl, h⟩
  · replace h := h.1 c
    refine q_bipush (v := (-3)) (dx D_x_back 4 rfl) (by decide) ?_
    exact e_iret (dx D_x_back 5 rfl) rfl rfl ⟨_, rfl, h⟩
abbrev Cx_read (x1 : Int32) (g : Sg) (Q : Int32 → Sg → Prop) : Prop := Ci Mx_read [.ref 0, .int x1] g Q
abbrev Hx_read_38 (x1 : Int32) (x2 : Int32) (x3 : Int32) (g : Sg) (Q : Int32 → Sg → Prop) : Prop := Hi Mx_read 38 [some (.ref 0), some (.int x1), some (.int x2), some (.int x3), none, none] [] g Q
set_option maxRecDepth 20000 in
theorem Vx_read {x1 : Int32} {g : Sg} {Q : Int32 → Sg → Prop} (h : (((isS x1) → vp_in x1 4 ∧ (((g 32 (x1).toNatClampNeg = (-1)) → Q ((-10) - 1) (sgU g 30 3 1)) ∧ (¬ (g 32 (x1).toNatClampNeg = (-1)) → Hx_read_38 x1 0 0 g Q))) ∧ (¬ (isS x1) → Q (-2) g))) : Cx_read x1 g Q := by
  refine Cl.of 4 pl_X8 rfl ?_
  refine e_aload_n (dx D_x_read 0 rfl) rfl ?_
  refine e_getR (dx D_x_read 1 rfl) fl_RX8_67 rfl rfl ?_
  refine e_iload_n (dx D_x_read 2 rfl) rfl ?_
  refine e_callVi (Q1 := fun r g' => bP (isS x1) = r ∧ g = g') (rest := []) [.int x1] (dx D_x_read 3 rfl) ln_x_read_157 rfl rfl rfl (Nat.le_of_ble_eq_true rfl) (Is_hasSheet  ⟨rfl, rfl⟩) (fun r g' hh => ?_)
  obtain ⟨rfl, rfl⟩ := hh
  refine e_if_ne (tgt := 14) (dx D_x_read 4 rfl) (by decide) (fun c => ?_) (fun c => ?_)
  · replace h := h.1 (bP_n c)
    refine e_aload_n (dx D_x_read 7 rfl) rfl ?_
    refine e_getR (dx D_x_read 8 rfl) fl_RX8_67 rfl rfl ?_
    refine e_iload_n (dx D_x_read 9 rfl) rfl ?_
    obtain ⟨hb1, h⟩ := h
    refine e_callVi (Q1 := fun r g' => bP (g 32 (x1).toNatClampNeg = (-1)) = r ∧ g = g') (rest := []) [.int x1] (dx D_x_read 10 rfl) ln_x_read_160 rfl rfl rfl (Nat.le_of_ble_eq_true rfl) (Is_isLost hb1 ⟨rfl, rfl⟩) (fun r g' hh => ?_)
    obtain ⟨rfl, rfl⟩ := hh
    refine e_if_eq (tgt := 34) (dx D_x_read 11 rfl) (by decide) (fun c => ?_) (fun c => ?_)
    · replace h := h.2 (bP_z c)
      refine q_iconst (v := 0) (dx D_x_read 17 rfl) (by decide) ?_
      refine q_istore_n (L' := [some (.ref 0), some (.int x1), some (.int 0), none, none, none]) (dx D_x_read 18 rfl) (by decide) rfl ?_
      refine q_iconst (v := 0) (dx D_x_read 19 rfl) (by decide) ?_
      refine q_istore_n (L' := [some (.ref 0), some (.int x1), some (.int 0), some (.int 0), none, none]) (dx D_x_read 20 rfl) (by decide) rfl ?_
      exact h
    · replace h := h.1 (bP_n c)
      refine e_aload_n (dx D_x_read 12 rfl) rfl ?_
      refine e_getR (dx D_x_read 13 rfl) fl_RX8_67 rfl rfl ?_
      refine q_iconst (v := 1) (dx D_x_read 14 rfl) (by decide) ?_
      refine e_callVi (Q1 := fun r g' => ((-10) - 1) = r ∧ (sgU g 30 3 1) = g') (rest := []) [.int 1] (dx D_x_read 15 rfl) ln_x_read_163 rfl rfl rfl (Nat.le_of_ble_eq_true rfl) (Is_found  ⟨rfl, rfl⟩) (fun r g' hh => ?_)
      obtain ⟨rfl, rfl⟩ := hh
      exact e_iret (dx D_x_read 16 rfl) rfl rfl ⟨_, rfl, h⟩
  · replace h := h.2 (bP_z c)
    refine q_bipush (v := (-2)) (dx D_x_read 5 rfl) (by decide) ?_
    exact e_iret (dx D_x_read 6 rfl) rfl rfl ⟨_, rfl, h⟩
set_option maxRecDepth 20000 in
theorem Vx_read_38 {x1 : Int32} {x2 : Int32} {x3 : Int32} {g : Sg} {Q : Int32 → Sg → Prop} (h : vp_in x1 4 ∧ (((g 33 (x1).toNatClampNeg) ≤ (x3 + 1) → Q x2 g) ∧ (¬ (g 33 (x1).toNatClampNeg) ≤ (x3 + 1) → vp_in (x1 * 60 + x3) 240 ∧ vp_in (x1 * 60 + (x3 + 1)) 240 ∧ (((twoE (g 31 (x1 * 60 + x3).toNatClampNeg) (g 31 (x1 * 60 + (x3 + 1)).toNatClampNeg)) → Cb_add (g 31 (x1 * 60 + x3).toNatClampNeg) (g 31 (x1 * 60 + (x3 + 1)).toNatClampNeg) g (fun r5 g4 => ((r5 = (-4) → Q x2 g4) ∧ (¬ r5 = (-4) → Hx_read_38 x1 (x2 + 1) (x3 + 2) g4 Q)))) ∧ (¬ (twoE (g 31 (x1 * 60 + x3).toNatClampNeg) (g 31 (x1 * 60 + (x3 + 1)).toNatClampNeg)) → Q x2 g))))) : Hx_read_38 x1 x2 x3 g Q := by
  refine e_iload_n (dx D_x_read 21 rfl) rfl ?_
  refine q_iconst (v := 1) (dx D_x_read 22 rfl) (by decide) ?_
  refine e_iadd (dx D_x_read 23 rfl) ?_
  refine e_aload_n (dx D_x_read 24 rfl) rfl ?_
  refine e_getR (dx D_x_read 25 rfl) fl_RX8_67 rfl rfl ?_
  refine e_getR (dx D_x_read 26 rfl) fl_RX8_166 rfl rfl ?_
  refine e_iload_n (dx D_x_read 27 rfl) rfl ?_
  obtain ⟨hb1, h⟩ := h
  refine e_iald (dx D_x_read 28 rfl) rfl hb1 ?_
  refine e_icmp_ge (tgt := 115) (dx D_x_read 29 rfl) (by decide) (fun c => ?_) (fun c => ?_)
  · replace h := h.1 c
    refine e_iload_n (dx D_x_read 59 rfl) rfl ?_
    exact e_iret (dx D_x_read 60 rfl) rfl rfl ⟨_, rfl, h⟩
  · replace h := h.2 c
    refine e_aload_n (dx D_x_read 30 rfl) rfl ?_
    refine e_getR (dx D_x_read 31 rfl) fl_RX8_67 rfl rfl ?_
    refine e_iload_n (dx D_x_read 32 rfl) rfl ?_
    refine e_iload_n (dx D_x_read 33 rfl) rfl ?_
    obtain ⟨hb2, h⟩ := h
    refine e_callVi (Q1 := fun r g' => (g 31 (x1 * 60 + x3).toNatClampNeg) = r ∧ g = g') (rest := []) [.int x1, .int x3] (dx D_x_read 34 rfl) ln_x_read_169 rfl rfl rfl (Nat.le_of_ble_eq_true rfl) (Is_item hb2 ⟨rfl, rfl⟩) (fun r g' hh => ?_)
    obtain ⟨rfl, rfl⟩ := hh
    refine q_istore (L' := [some (.ref 0), some (.int x1), some (.int x2), some (.int x3), some (.int (g 31 (x1 * 60 + x3).toNatClampNeg)), none]) (dx D_x_read 35 rfl) (by decide) rfl ?_
    refine e_aload_n (dx D_x_read 36 rfl) rfl ?_
    refine e_getR (dx D_x_read 37 rfl) fl_RX8_67 rfl rfl ?_
    refine e_iload_n (dx D_x_read 38 rfl) rfl ?_
    refine e_iload_n (dx D_x_read 39 rfl) rfl ?_
    refine q_iconst (v := 1) (dx D_x_read 40 rfl) (by decide) ?_
    refine e_iadd (dx D_x_read 41 rfl) ?_
    obtain ⟨hb3, h⟩ := h
    refine e_callVi (Q1 := fun r g' => (g 31 (x1 * 60 + (x3 + 1)).toNatClampNeg) = r ∧ g = g') (rest := []) [.int x1, .int (x3 + 1)] (dx D_x_read 42 rfl) ln_x_read_169 rfl rfl rfl (Nat.le_of_ble_eq_true rfl) (Is_item hb3 ⟨rfl, rfl⟩) (fun r g' hh => ?_)
    obtain ⟨rfl, rfl⟩ := hh
    refine q_istore (L' := [some (.ref 0), some (.int x1), some (.int x2), some (.int x3), some (.int (g 31 (x1 * 60 + x3).toNatClampNeg)), some (.int (g 31 (x1 * 60 + (x3 + 1)).toNatClampNeg))]) (dx D_x_read 43 rfl) (by decide) rfl ?_
    refine e_iload (dx D_x_read 44 rfl) rfl ?_
    refine e_iload (dx D_x_read 45 rfl) rfl ?_
    refine e_callSi (Q1 := fun r g' => bP (twoE (g 31 (x1 * 60 + x3).toNatClampNeg) (g 31 (x1 * 60 + (x3 + 1)).toNatClampNeg)) = r ∧ g = g') (rest := []) [.int (g 31 (x1 * 60 + x3).toNatClampNeg), .int (g 31 (x1 * 60 + (x3 + 1)).toNatClampNeg)] (dx D_x_read 46 rfl) ln_x_read_143 rfl rfl (Nat.le_of_ble_eq_true rfl) (Ix_areTwoEnds  ⟨rfl, rfl⟩) (fun r g' hh => ?_)
    obtain ⟨rfl, rfl⟩ := hh
    refine e_if_eq (tgt := 115) (dx D_x_read 47 rfl) (by decide) (fun c => ?_) (fun c => ?_)
    · replace h := h.2 (bP_z c)
      refine e_iload_n (dx D_x_read 59 rfl) rfl ?_
      exact e_iret (dx D_x_read 60 rfl) rfl rfl ⟨_, rfl, h⟩
    · replace h := h.1 (bP_n c)
      refine e_aload_n (dx D_x_read 48 rfl) rfl ?_
      refine e_getR (dx D_x_read 49 rfl) fl_RX8_30 rfl rfl ?_
      refine e_iload (dx D_x_read 50 rfl) rfl ?_
      refine e_iload (dx D_x_read 51 rfl) rfl ?_
      refine e_callVi (rest := []) [.int (g 31 (x1 * 60 + x3).toNatClampNeg), .int (g 31 (x1 * 60 + (x3 + 1)).toNatClampNeg)] (dx D_x_read 52 rfl) ln_x_read_147 rfl rfl rfl (Nat.le_of_ble_eq_true rfl) h (fun r5 g4 h => ?_)
      refine q_bipush (v := (-4)) (dx D_x_read 53 rfl) (by decide) ?_
      refine e_icmp_ne (tgt := 106) (dx D_x_read 54 rfl) (by decide) (fun c => ?_) (fun c => ?_)
      · replace h := h.2 c
        refine q_iinc (d := 1) (L' := [some (.ref 0), some (.int x1), some (.int (x2 + 1)), some (.int x3), some (.int (g 31 (x1 * 60 + x3).toNatClampNeg)), some (.int (g 31 (x1 * 60 + (x3 + 1)).toNatClampNeg))]) (dx D_x_read 56 rfl) rfl (by decide) (by decide) rfl ?_
        refine q_iinc (d := 2) (L' := [some (.ref 0), some (.int x1), some (.int (x2 + 1)), some (.int (x3 + 2)), some (.int (g 31 (x1 * 60 + x3).toNatClampNeg)), some (.int (g 31 (x1 * 60 + (x3 + 1)).toNatClampNeg))]) (dx D_x_read 57 rfl) rfl (by decide) (by decide) rfl ?_
        refine e_goto (tgt := 38) (dx D_x_read 58 rfl) (by decide) ?_
        exact Wp.mask [true, true, true, true, false, false] h
      · replace h := h.1 c
        refine e_goto (tgt := 115) (dx D_x_read 55 rfl) (by decide) ?_
        refine e_iload_n (dx D_x_read 59 rfl) rfl ?_
        exact e_iret (dx D_x_read 60 rfl) rfl rfl ⟨_, rfl, h⟩
abbrev Cx_judged (g : Sg) (Q : Int32 → Sg → Prop) : Prop := Ci Mx_judged [.ref 0] g Q
set_option maxRecDepth 20000 in
theorem Vx_judged {g : Sg} {Q : Int32 → Sg → Prop} (h : Cb_firstNotDone g (fun r2 g1 => Q r2 g1)) : Cx_judged g Q := by
  refine Cl.of 0 pl_X8 rfl ?_
  refine e_aload_n (dx D_x_judged 0 rfl) rfl ?_
  refine e_getR (dx D_x_judged 1 rfl) fl_RX8_30 rfl rfl ?_
  refine e_callVi (rest := []) [] (dx D_x_judged 2 rfl) ln_x_judged_172 rfl rfl rfl (Nat.le_of_ble_eq_true rfl) h (fun r2 g1 h => ?_)
  exact e_iret (dx D_x_judged 3 rfl) rfl rfl ⟨_, rfl, h⟩
abbrev Cx_state (x1 : Int32) (x2 : Int32) (g : Sg) (Q : Int32 → Sg → Prop) : Prop := Ci Mx_state [.ref 0, .int x1, .int x2] g Q
set_option maxRecDepth 20000 in
theorem Vx_state {x1 : Int32} {x2 : Int32} {g : Sg} {Q : Int32 → Sg → Prop} (h : (((0 ≤ x1 ∧ x1 ≤ g 11 6) → ((x2 = 0 → vp_in x1 17 ∧ Q (g 14 (x1).toNatClampNeg) g) ∧ (¬ x2 = 0 → ((x2 = 1 → vp_in x1 17 ∧ Cb_fullPipes (g 14 (x1).toNatClampNeg) g (fun r3 g2 => Q r3 g2)) ∧ (¬ x2 = 1 → Q (-2) g))))) ∧ (¬ (0 ≤ x1 ∧ x1 ≤ g 11 6) → Q (-2) g))) : Cx_state x1 x2 g Q := by
  refine Cl.of 0 pl_X8 rfl ?_
  refine e_aload_n (dx D_x_state 0 rfl) rfl ?_
  refine e_iload_n (dx D_x_state 1 rfl) rfl ?_
  refine e_callVi (Q1 := fun r g' => bP (0 ≤ x1 ∧ x1 ≤ g 11 6) = r ∧ g = g') (rest := []) [.int x1] (dx D_x_state 2 rfl) ln_x_state_175 rfl rfl rfl (Nat.le_of_ble_eq_true rfl) (Ix_isBehind  ⟨rfl, rfl⟩) (fun r g' hh => ?_)
  obtain ⟨rfl, rfl⟩ := hh
  refine e_if_ne (tgt := 11) (dx D_x_state 3 rfl) (by decide) (fun c => ?_) (fun c => ?_)
  · replace h := h.1 (bP_n c)
    refine e_iload_n (dx D_x_state 6 rfl) rfl ?_
    refine e_if_ne (tgt := 25) (dx D_x_state 7 rfl) (by decide) (fun c => ?_) (fun c => ?_)
    · replace h := h.2 c
      refine e_iload_n (dx D_x_state 14 rfl) rfl ?_
      refine q_iconst (v := 1) (dx D_x_state 15 rfl) (by decide) ?_
      refine e_icmp_ne (tgt := 47) (dx D_x_state 16 rfl) (by decide) (fun c => ?_) (fun c => ?_)
      · replace h := h.2 c
        refine q_bipush (v := (-2)) (dx D_x_state 26 rfl) (by decide) ?_
        exact e_iret (dx D_x_state 27 rfl) rfl rfl ⟨_, rfl, h⟩
      · replace h := h.1 c
        refine e_aload_n (dx D_x_state 17 rfl) rfl ?_
        refine e_getR (dx D_x_state 18 rfl) fl_RX8_30 rfl rfl ?_
        refine e_aload_n (dx D_x_state 19 rfl) rfl ?_
        refine e_getR (dx D_x_state 20 rfl) fl_RX8_30 rfl rfl ?_
        refine e_getR (dx D_x_state 21 rfl) fl_RX8_178 rfl rfl ?_
        refine e_iload_n (dx D_x_state 22 rfl) rfl ?_
        obtain ⟨hb1, h⟩ := h
        refine e_iald (dx D_x_state 23 rfl) rfl hb1 ?_
        refine e_callVi (rest := []) [.int (g 14 (x1).toNatClampNeg)] (dx D_x_state 24 rfl) ln_x_state_181 rfl rfl rfl (Nat.le_of_ble_eq_true rfl) h (fun r3 g2 h => ?_)
        exact e_iret (dx D_x_state 25 rfl) rfl rfl ⟨_, rfl, h⟩
    · replace h := h.1 c
      refine e_aload_n (dx D_x_state 8 rfl) rfl ?_
      refine e_getR (dx D_x_state 9 rfl) fl_RX8_30 rfl rfl ?_
      refine e_getR (dx D_x_state 10 rfl) fl_RX8_178 rfl rfl ?_
      refine e_iload_n (dx D_x_state 11 rfl) rfl ?_
      obtain ⟨hb4, h⟩ := h
      refine e_iald (dx D_x_state 12 rfl) rfl hb4 ?_
      exact e_iret (dx D_x_state 13 rfl) rfl rfl ⟨_, rfl, h⟩
  · replace h := h.2 (bP_z c)
    refine q_bipush (v := (-2)) (dx D_x_state 4 rfl) (by decide) ?_
    exact e_iret (dx D_x_state 5 rfl) rfl rfl ⟨_, rfl, h⟩
abbrev Cx_wire (x1 : Int32) (x2 : Int32) (g : Sg) (Q : Int32 → Sg → Prop) : Prop := Ci Mx_wire [.ref 0, .int x1, .int x2] g Q
set_option maxRecDepth 20000 in
theorem Vx_wire {x1 : Int32} {x2 : Int32} {g : Sg} {Q : Int32 → Sg → Prop} (h : (((0 ≤ x1 ∧ x1 ≤ g 11 6) → (((isW x2) → vp_in x1 17 ∧ vp_in x2 16 ∧ Q (if tbb (g 14 (x1).toNatClampNeg) x2 = true then g 15 (x2).toNatClampNeg else 0) g) ∧ (¬ (isW x2) → Q (-2) g))) ∧ (¬ (0 ≤ x1 ∧ x1 ≤ g 11 6) → Q (-2) g))) : Cx_wire x1 x2 g Q := by
  refine Cl.of 0 pl_X8 rfl ?_
  refine e_aload_n (dx D_x_wire 0 rfl) rfl ?_
  refine e_iload_n (dx D_x_wire 1 rfl) rfl ?_
  refine e_callVi (Q1 := fun r g' => bP (0 ≤ x1 ∧ x1 ≤ g 11 6) = r ∧ g = g') (rest := []) [.int x1] (dx D_x_wire 2 rfl) ln_x_wire_175 rfl rfl rfl (Nat.le_of_ble_eq_true rfl) (Ix_isBehind  ⟨rfl, rfl⟩) (fun r g' hh => ?_)
  obtain ⟨rfl, rfl⟩ := hh
  refine e_if_eq (tgt := 15) (dx D_x_wire 3 rfl) (by decide) (fun c => ?_) (fun c => ?_)
  · replace h := h.2 (bP_z c)
    refine q_bipush (v := (-2)) (dx D_x_wire 7 rfl) (by decide) ?_
    exact e_iret (dx D_x_wire 8 rfl) rfl rfl ⟨_, rfl, h⟩
  · replace h := h.1 (bP_n c)
    refine e_iload_n (dx D_x_wire 4 rfl) rfl ?_
    refine e_callSi (Q1 := fun r g' => bP (isW x2) = r ∧ g = g') (rest := []) [.int x2] (dx D_x_wire 5 rfl) ln_x_wire_150 rfl rfl (Nat.le_of_ble_eq_true rfl) (Ix_isWire  ⟨rfl, rfl⟩) (fun r g' hh => ?_)
    obtain ⟨rfl, rfl⟩ := hh
    refine e_if_ne (tgt := 18) (dx D_x_wire 6 rfl) (by decide) (fun c => ?_) (fun c => ?_)
    · replace h := h.1 (bP_n c)
      refine e_aload_n (dx D_x_wire 9 rfl) rfl ?_
      refine e_getR (dx D_x_wire 10 rfl) fl_RX8_30 rfl rfl ?_
      refine e_iload_n (dx D_x_wire 11 rfl) rfl ?_
      refine e_aload_n (dx D_x_wire 12 rfl) rfl ?_
      refine e_getR (dx D_x_wire 13 rfl) fl_RX8_30 rfl rfl ?_
      refine e_getR (dx D_x_wire 14 rfl) fl_RX8_178 rfl rfl ?_
      refine e_iload_n (dx D_x_wire 15 rfl) rfl ?_
      obtain ⟨hb1, h⟩ := h
      refine e_iald (dx D_x_wire 16 rfl) rfl hb1 ?_
      obtain ⟨hb2, h⟩ := h
      refine e_callVi (Q1 := fun r g' => (if tbb (g 14 (x1).toNatClampNeg) x2 = true then g 15 (x2).toNatClampNeg else 0) = r ∧ g = g') (rest := []) [.int x2, .int (g 14 (x1).toNatClampNeg)] (dx D_x_wire 17 rfl) ln_x_wire_184 rfl rfl rfl (Nat.le_of_ble_eq_true rfl) (Ib_pipesOf hb2 ⟨rfl, rfl⟩) (fun r g' hh => ?_)
      obtain ⟨rfl, rfl⟩ := hh
      exact e_iret (dx D_x_wire 18 rfl) rfl rfl ⟨_, rfl, h⟩
    · replace h := h.2 (bP_z c)
      refine q_bipush (v := (-2)) (dx D_x_wire 7 rfl) (by decide) ?_
      exact e_iret (dx D_x_wire 8 rfl) rfl rfl ⟨_, rfl, h⟩
abbrev Cx_out (x1 : Int32) (g : Sg) (Q : Int32 → Sg → Prop) : Prop := Ci Mx_out [.ref 0, .int x1] g Q
set_option maxRecDepth 20000 in
theorem Vx_out {x1 : Int32} {g : Sg} {Q : Int32 → Sg → Prop} (h : (((isW x1) → vp_in (g 11 6) 17 ∧ (((tbb (g 14 (g 11 6).toNatClampNeg) x1 = true) → Cb_drawnOutWith x1 g (fun r3 g2 => Q r3 g2)) ∧ (¬ (tbb (g 14 (g 11 6).toNatClampNeg) x1 = true) → Q (-3) g))) ∧ (¬ (isW x1) → Q (-2) g))) : Cx_out x1 g Q := by
  refine Cl.of 0 pl_X8 rfl ?_
  refine e_iload_n (dx D_x_out 0 rfl) rfl ?_
  refine e_callSi (Q1 := fun r g' => bP (isW x1) = r ∧ g = g') (rest := []) [.int x1] (dx D_x_out 1 rfl) ln_x_out_150 rfl rfl (Nat.le_of_ble_eq_true rfl) (Ix_isWire  ⟨rfl, rfl⟩) (fun r g' hh => ?_)
  obtain ⟨rfl, rfl⟩ := hh
  refine e_if_ne (tgt := 10) (dx D_x_out 2 rfl) (by decide) (fun c => ?_) (fun c => ?_)
  · replace h := h.1 (bP_n c)
    refine e_aload_n (dx D_x_out 5 rfl) rfl ?_
    refine e_getR (dx D_x_out 6 rfl) fl_RX8_30 rfl rfl ?_
    obtain ⟨hb1, h⟩ := h
    refine e_callVi (Q1 := fun r g' => (g 14 (g 11 6).toNatClampNeg) = r ∧ g = g') (rest := []) [] (dx D_x_out 7 rfl) ln_x_out_118 rfl rfl rfl (Nat.le_of_ble_eq_true rfl) (Ib_lyingNow hb1 ⟨rfl, rfl⟩) (fun r g' hh => ?_)
    obtain ⟨rfl, rfl⟩ := hh
    refine e_iload_n (dx D_x_out 8 rfl) rfl ?_
    refine e_callSi (Q1 := fun r g' => bP (tbb (g 14 (g 11 6).toNatClampNeg) x1 = true) = r ∧ g = g') (rest := []) [.int (g 14 (g 11 6).toNatClampNeg), .int x1] (dx D_x_out 9 rfl) ln_x_out_187 rfl rfl (Nat.le_of_ble_eq_true rfl) (Ix_hasBit  ⟨rfl, rfl⟩) (fun r g' hh => ?_)
    obtain ⟨rfl, rfl⟩ := hh
    refine e_if_ne (tgt := 27) (dx D_x_out 10 rfl) (by decide) (fun c => ?_) (fun c => ?_)
    · replace h := h.1 (bP_n c)
      refine e_aload_n (dx D_x_out 13 rfl) rfl ?_
      refine e_getR (dx D_x_out 14 rfl) fl_RX8_30 rfl rfl ?_
      refine e_iload_n (dx D_x_out 15 rfl) rfl ?_
      refine e_callVi (rest := []) [.int x1] (dx D_x_out 16 rfl) ln_x_out_190 rfl rfl rfl (Nat.le_of_ble_eq_true rfl) h (fun r3 g2 h => ?_)
      exact e_iret (dx D_x_out 17 rfl) rfl rfl ⟨_, rfl, h⟩
    · replace h := h.2 (bP_z c)
      refine q_bipush (v := (-3)) (dx D_x_out 11 rfl) (by decide) ?_
      exact e_iret (dx D_x_out 12 rfl) rfl rfl ⟨_, rfl, h⟩
  · replace h := h.2 (bP_z c)
    refine q_bipush (v := (-2)) (dx D_x_out 3 rfl) (by decide) ?_
    exact e_iret (dx D_x_out 4 rfl) rfl rfl ⟨_, rfl, h⟩
abbrev Cx_findWay (x1 : Int32) (x2 : Int32) (g : Sg) (Q : Int32 → Sg → Prop) : Prop := Ci Mx_findWay [.ref 0, .int x1, .int x2] g Q
set_option maxRecDepth 20000 in
theorem Vx_findWay {x1 : Int32} {x2 : Int32} {g : Sg} {Q : Int32 → Sg → Prop} (h : Cb_loadNow g (fun g1 => Cw_find x1 x2 g1 (fun r3 g2 => r3 &&& 1 = r3 ∧ Q r3 g2))) : Cx_findWay x1 x2 g Q := by
  refine Cl.of 0 pl_X8 rfl ?_
  refine e_aload_n (dx D_x_findWay 0 rfl) rfl ?_
  refine e_getR (dx D_x_findWay 1 rfl) fl_RX8_30 rfl rfl ?_
  refine e_callVv (rest := []) [] (dx D_x_findWay 2 rfl) ln_x_findWay_205 rfl rfl rfl (Nat.le_of_ble_eq_true rfl) h (fun g1 h => ?_)
  refine e_aload_n (dx D_x_findWay 3 rfl) rfl ?_
  refine e_getR (dx D_x_findWay 4 rfl) fl_RX8_21 rfl rfl ?_
  refine e_iload_n (dx D_x_findWay 5 rfl) rfl ?_
  refine e_iload_n (dx D_x_findWay 6 rfl) rfl ?_
  refine e_callVi (rest := []) [.int x1, .int x2] (dx D_x_findWay 7 rfl) ln_x_findWay_406 rfl rfl rfl (Nat.le_of_ble_eq_true rfl) h (fun r3 g2 h => ?_)
  obtain ⟨hb4, h⟩ := h
  exact e_iret (dx D_x_findWay 8 rfl) rfl (nb1 hb4) ⟨_, rfl, h⟩
abbrev Cx_shortest (x1 : Int32) (x2 : Int32) (x3 : Int32) (g : Sg) (Q : Int32 → Sg → Prop) : Prop := Ci Mx_shortest [.ref 0, .int x1, .int x2, .int x3] g Q
set_option maxRecDepth 20000 in
theorem Vx_shortest {x1 : Int32} {x2 : Int32} {x3 : Int32} {g : Sg} {Q : Int32 → Sg → Prop} (h : (((twoE x1 x2) → (((-1) ≤ x3 → Cx_findWay x1 x2 g (fun r2 g1 => ((r2 = 0 → Q (-1) g1) ∧ (¬ r2 = 0 → ((x3 = (-1) → Cw_rowLength g1 (fun r5 g4 => Q r5 g4)) ∧ (¬ x3 = (-1) → (((g1 7 4) ≤ x3 → Q (-1) g1) ∧ (¬ (g1 7 4) ≤ x3 → vp_in x3 8 ∧ Q (g1 10 (x3).toNatClampNeg) g1)))))))) ∧ (¬ (-1) ≤ x3 → Q (-2) g))) ∧ (¬ (twoE x1 x2) → Q (-2) g))) : Cx_shortest x1 x2 x3 g Q := by
  refine Cl.of 0 pl_X8 rfl ?_
  refine e_iload_n (dx D_x_shortest 0 rfl) rfl ?_
  refine e_iload_n (dx D_x_shortest 1 rfl) rfl ?_
  refine e_callSi (Q1 := fun r g' => bP (twoE x1 x2) = r ∧ g = g') (rest := []) [.int x1, .int x2] (dx D_x_shortest 2 rfl) ln_x_shortest_143 rfl rfl (Nat.le_of_ble_eq_true rfl) (Ix_areTwoEnds  ⟨rfl, rfl⟩) (fun r g' hh => ?_)
  obtain ⟨rfl, rfl⟩ := hh
  refine e_if_eq (tgt := 13) (dx D_x_shortest 3 rfl) (by decide) (fun c => ?_) (fun c => ?_)
  · replace h := h.2 (bP_z c)
    refine q_bipush (v := (-2)) (dx D_x_shortest 7 rfl) (by decide) ?_
    exact e_iret (dx D_x_shortest 8 rfl) rfl rfl ⟨_, rfl, h⟩
  · replace h := h.1 (bP_n c)
    refine e_iload_n (dx D_x_shortest 4 rfl) rfl ?_
    refine q_iconst (v := (-1)) (dx D_x_shortest 5 rfl) (by decide) ?_
    refine e_icmp_ge (tgt := 16) (dx D_x_shortest 6 rfl) (by decide) (fun c => ?_) (fun c => ?_)
    · replace h := h.1 c
      refine e_aload_n (dx D_x_shortest 9 rfl) rfl ?_
      refine e_iload_n (dx D_x_shortest 10 rfl) rfl ?_
      refine e_iload_n (dx D_x_shortest 11 rfl) rfl ?_
      refine e_callVi (rest := []) [.int x1, .int x2] (dx D_x_shortest 12 rfl) ln_x_shortest_193 rfl rfl rfl (Nat.le_of_ble_eq_true rfl) h (fun r2 g1 h => ?_)
      refine e_if_ne (tgt := 27) (dx D_x_shortest 13 rfl) (by decide) (fun c => ?_) (fun c => ?_)
      · replace h := h.2 c
        refine e_iload_n (dx D_x_shortest 16 rfl) rfl ?_
        refine q_iconst (v := (-1)) (dx D_x_shortest 17 rfl) (by decide) ?_
        refine e_icmp_ne (tgt := 40) (dx D_x_shortest 18 rfl) (by decide) (fun c => ?_) (fun c => ?_)
        · replace h := h.2 c
          refine e_iload_n (dx D_x_shortest 23 rfl) rfl ?_
          refine e_aload_n (dx D_x_shortest 24 rfl) rfl ?_
          refine e_getR (dx D_x_shortest 25 rfl) fl_RX8_21 rfl rfl ?_
          refine e_getI (dx D_x_shortest 26 rfl) fl_RX8_199 rfl rfl ?_
          refine e_icmp_ge (tgt := 63) (dx D_x_shortest 27 rfl) (by decide) (fun c => ?_) (fun c => ?_)
          · replace h := h.1 c
            refine q_iconst (v := (-1)) (dx D_x_shortest 34 rfl) (by decide) ?_
            exact e_iret (dx D_x_shortest 35 rfl) rfl rfl ⟨_, rfl, h⟩
          · replace h := h.2 c
            refine e_aload_n (dx D_x_shortest 28 rfl) rfl ?_
            refine e_getR (dx D_x_shortest 29 rfl) fl_RX8_21 rfl rfl ?_
            refine e_getR (dx D_x_shortest 30 rfl) fl_RX8_202 rfl rfl ?_
            refine e_iload_n (dx D_x_shortest 31 rfl) rfl ?_
            obtain ⟨hb3, h⟩ := h
            refine e_iald (dx D_x_shortest 32 rfl) rfl hb3 ?_
            refine e_goto (tgt := 64) (dx D_x_shortest 33 rfl) (by decide) ?_
            exact e_iret (dx D_x_shortest 35 rfl) rfl rfl ⟨_, rfl, h⟩
        · replace h := h.1 c
          refine e_aload_n (dx D_x_shortest 19 rfl) rfl ?_
          refine e_getR (dx D_x_shortest 20 rfl) fl_RX8_21 rfl rfl ?_
          refine e_callVi (rest := []) [] (dx D_x_shortest 21 rfl) ln_x_shortest_196 rfl rfl rfl (Nat.le_of_ble_eq_true rfl) h (fun r5 g4 h => ?_)
          exact e_iret (dx D_x_shortest 22 rfl) rfl rfl ⟨_, rfl, h⟩
      · replace h := h.1 c
        refine q_iconst (v := (-1)) (dx D_x_shortest 14 rfl) (by decide) ?_
        exact e_iret (dx D_x_shortest 15 rfl) rfl rfl ⟨_, rfl, h⟩
    · replace h := h.2 c
      refine q_bipush (v := (-2)) (dx D_x_shortest 7 rfl) (by decide) ?_
      exact e_iret (dx D_x_shortest 8 rfl) rfl rfl ⟨_, rfl, h⟩
abbrev Cx_most (x1 : Int32) (x2 : Int32) (x3 : Int32) (g : Sg) (Q : Int32 → Sg → Prop) : Prop := Ci Mx_most [.ref 0, .int x1, .int x2, .int x3] g Q
set_option maxRecDepth 20000 in
theorem Vx_most {x1 : Int32} {x2 : Int32} {x3 : Int32} {g : Sg} {Q : Int32 → Sg → Prop} (h : (((twoE x1 x2) → (((0 ≤ x3 ∧ x3 ≤ 1) → Cb_loadNow g (fun g1 => ((x3 = 0 → Cw_drawAll x1 x2 g1 (fun r5 g4 => Q r5 g4)) ∧ (¬ x3 = 0 → Cf_greatest x1 x2 g1 (fun r3 g2 => Q r3 g2))))) ∧ (¬ (0 ≤ x3 ∧ x3 ≤ 1) → Q (-2) g))) ∧ (¬ (twoE x1 x2) → Q (-2) g))) : Cx_most x1 x2 x3 g Q := by
  refine Cl.of 0 pl_X8 rfl ?_
  refine e_iload_n (dx D_x_most 0 rfl) rfl ?_
  refine e_iload_n (dx D_x_most 1 rfl) rfl ?_
  refine e_callSi (Q1 := fun r g' => bP (twoE x1 x2) = r ∧ g = g') (rest := []) [.int x1, .int x2] (dx D_x_most 2 rfl) ln_x_most_143 rfl rfl (Nat.le_of_ble_eq_true rfl) (Ix_areTwoEnds  ⟨rfl, rfl⟩) (fun r g' hh => ?_)
  obtain ⟨rfl, rfl⟩ := hh
  refine e_if_eq (tgt := 17) (dx D_x_most 3 rfl) (by decide) (fun c => ?_) (fun c => ?_)
  · replace h := h.2 (bP_z c)
    refine q_bipush (v := (-2)) (dx D_x_most 9 rfl) (by decide) ?_
    exact e_iret (dx D_x_most 10 rfl) rfl rfl ⟨_, rfl, h⟩
  · replace h := h.1 (bP_n c)
    refine e_iload_n (dx D_x_most 4 rfl) rfl ?_
    refine q_iconst (v := 0) (dx D_x_most 5 rfl) (by decide) ?_
    refine q_iconst (v := 1) (dx D_x_most 6 rfl) (by decide) ?_
    refine e_callSi (Q1 := fun r g' => bP (0 ≤ x3 ∧ x3 ≤ 1) = r ∧ g = g') (rest := []) [.int x3, .int 0, .int 1] (dx D_x_most 7 rfl) ln_x_most_75 rfl rfl (Nat.le_of_ble_eq_true rfl) (Ix_within  ⟨rfl, rfl⟩) (fun r g' hh => ?_)
    obtain ⟨rfl, rfl⟩ := hh
    refine e_if_ne (tgt := 20) (dx D_x_most 8 rfl) (by decide) (fun c => ?_) (fun c => ?_)
    · replace h := h.1 (bP_n c)
      refine e_aload_n (dx D_x_most 11 rfl) rfl ?_
      refine e_getR (dx D_x_most 12 rfl) fl_RX8_30 rfl rfl ?_
      refine e_callVv (rest := []) [] (dx D_x_most 13 rfl) ln_x_most_205 rfl rfl rfl (Nat.le_of_ble_eq_true rfl) h (fun g1 h => ?_)
      refine e_iload_n (dx D_x_most 14 rfl) rfl ?_
      refine e_if_ne (tgt := 43) (dx D_x_most 15 rfl) (by decide) (fun c => ?_) (fun c => ?_)
      · replace h := h.2 c
        refine e_aload_n (dx D_x_most 22 rfl) rfl ?_
        refine e_getR (dx D_x_most 23 rfl) fl_RX8_37 rfl rfl ?_
        refine e_iload_n (dx D_x_most 24 rfl) rfl ?_
        refine e_iload_n (dx D_x_most 25 rfl) rfl ?_
        refine e_callVi (rest := []) [.int x1, .int x2] (dx D_x_most 26 rfl) ln_x_most_211 rfl rfl rfl (Nat.le_of_ble_eq_true rfl) h (fun r3 g2 h => ?_)
        exact e_iret (dx D_x_most 27 rfl) rfl rfl ⟨_, rfl, h⟩
      · replace h := h.1 c
        refine e_aload_n (dx D_x_most 16 rfl) rfl ?_
        refine e_getR (dx D_x_most 17 rfl) fl_RX8_21 rfl rfl ?_
        refine e_iload_n (dx D_x_most 18 rfl) rfl ?_
        refine e_iload_n (dx D_x_most 19 rfl) rfl ?_
        refine e_callVi (rest := []) [.int x1, .int x2] (dx D_x_most 20 rfl) ln_x_most_208 rfl rfl rfl (Nat.le_of_ble_eq_true rfl) h (fun r5 g4 h => ?_)
        refine e_goto (tgt := 52) (dx D_x_most 21 rfl) (by decide) ?_
        exact e_iret (dx D_x_most 27 rfl) rfl rfl ⟨_, rfl, h⟩
    · replace h := h.2 (bP_z c)
      refine q_bipush (v := (-2)) (dx D_x_most 9 rfl) (by decide) ?_
      exact e_iret (dx D_x_most 10 rfl) rfl rfl ⟨_, rfl, h⟩
abbrev Cx_failingDay (x1 : Int32) (x2 : Int32) (g : Sg) (Q : Int32 → Sg → Prop) : Prop := Ci Mx_failingDay [.ref 0, .int x1, .int x2] g Q
set_option maxRecDepth 20000 in
theorem Vx_failingDay {x1 : Int32} {x2 : Int32} {g : Sg} {Q : Int32 → Sg → Prop} (h : vp_in x1 16 ∧ Cp_dampIn (if tbb x2 x1 = true then g 15 (x1).toNatClampNeg else 0) g (fun r3 g2 => ((0 < r3 → ¬ r3 = 0 ∧ Q ((((g2 0 8) + r3) - 1) / r3) g2) ∧ (¬ 0 < r3 → Q (-1) g2)))) : Cx_failingDay x1 x2 g Q := by
  refine Cl.of 1 pl_X8 rfl ?_
  refine e_aload_n (dx D_x_failingDay 0 rfl) rfl ?_
  refine e_getR (dx D_x_failingDay 1 rfl) fl_RX8_10 rfl rfl ?_
  refine e_aload_n (dx D_x_failingDay 2 rfl) rfl ?_
  refine e_getR (dx D_x_failingDay 3 rfl) fl_RX8_30 rfl rfl ?_
  refine e_iload_n (dx D_x_failingDay 4 rfl) rfl ?_
  refine e_iload_n (dx D_x_failingDay 5 rfl) rfl ?_
  obtain ⟨hb1, h⟩ := h
  refine e_callVi (Q1 := fun r g' => (if tbb x2 x1 = true then g 15 (x1).toNatClampNeg else 0) = r ∧ g = g') (rest := [.ref 1]) [.int x1, .int x2] (dx D_x_failingDay 6 rfl) ln_x_failingDay_184 rfl rfl rfl (Nat.le_of_ble_eq_true rfl) (Ib_pipesOf hb1 ⟨rfl, rfl⟩) (fun r g' hh => ?_)
  obtain ⟨rfl, rfl⟩ := hh
  refine e_callVi (rest := []) [.int (if tbb x2 x1 = true then g 15 (x1).toNatClampNeg else 0)] (dx D_x_failingDay 7 rfl) ln_x_failingDay_409 rfl rfl rfl (Nat.le_of_ble_eq_true rfl) h (fun r3 g2 h => ?_)
  refine q_istore_n (L' := [some (.ref 0), some (.int x1), some (.int x2), some (.int r3)]) (dx D_x_failingDay 8 rfl) (by decide) rfl ?_
  refine e_iload_n (dx D_x_failingDay 9 rfl) rfl ?_
  refine e_if_gt (tgt := 23) (dx D_x_failingDay 10 rfl) (by decide) (fun c => ?_) (fun c => ?_)
  · replace h := h.1 c
    refine e_aload_n (dx D_x_failingDay 13 rfl) rfl ?_
    refine e_getI (dx D_x_failingDay 14 rfl) fl_RX8_71 rfl rfl ?_
    refine e_iload_n (dx D_x_failingDay 15 rfl) rfl ?_
    refine e_iadd (dx D_x_failingDay 16 rfl) ?_
    refine q_iconst (v := 1) (dx D_x_failingDay 17 rfl) (by decide) ?_
    refine e_isub (dx D_x_failingDay 18 rfl) ?_
    refine e_iload_n (dx D_x_failingDay 19 rfl) rfl ?_
    obtain ⟨hb4, h⟩ := h
    refine e_idiv (dx D_x_failingDay 20 rfl) hb4 ?_
    exact e_iret (dx D_x_failingDay 21 rfl) rfl rfl ⟨_, rfl, h⟩
  · replace h := h.2 c
    refine q_iconst (v := (-1)) (dx D_x_failingDay 11 rfl) (by decide) ?_
    exact e_iret (dx D_x_failingDay 12 rfl) rfl rfl ⟨_, rfl, h⟩
abbrev Cx_fails (x1 : Int32) (g : Sg) (Q : Int32 → Sg → Prop) : Prop := Ci Mx_fails [.ref 0, .int x1] g Q
set_option maxRecDepth 20000 in
theorem Vx_fails {x1 : Int32} {g : Sg} {Q : Int32 → Sg → Prop} (h : (((isW x1) → vp_in (g 11 6) 17 ∧ Cx_failingDay x1 (g 14 (g 11 6).toNatClampNeg) g (fun r3 g2 => Q r3 g2)) ∧ (¬ (isW x1) → Q (-2) g))) : Cx_fails x1 g Q := by
  refine Cl.of 0 pl_X8 rfl ?_
  refine e_iload_n (dx D_x_fails 0 rfl) rfl ?_
  refine e_callSi (Q1 := fun r g' => bP (isW x1) = r ∧ g = g') (rest := []) [.int x1] (dx D_x_fails 1 rfl) ln_x_fails_150 rfl rfl (Nat.le_of_ble_eq_true rfl) (Ix_isWire  ⟨rfl, rfl⟩) (fun r g' hh => ?_)
  obtain ⟨rfl, rfl⟩ := hh
  refine e_if_ne (tgt := 10) (dx D_x_fails 2 rfl) (by decide) (fun c => ?_) (fun c => ?_)
  · replace h := h.1 (bP_n c)
    refine e_aload_n (dx D_x_fails 5 rfl) rfl ?_
    refine e_iload_n (dx D_x_fails 6 rfl) rfl ?_
    refine e_aload_n (dx D_x_fails 7 rfl) rfl ?_
    refine e_getR (dx D_x_fails 8 rfl) fl_RX8_30 rfl rfl ?_
    obtain ⟨hb1, h⟩ := h
    refine e_callVi (Q1 := fun r g' => (g 14 (g 11 6).toNatClampNeg) = r ∧ g = g') (rest := [.int x1, .ref 0]) [] (dx D_x_fails 9 rfl) ln_x_fails_118 rfl rfl rfl (Nat.le_of_ble_eq_true rfl) (Ib_lyingNow hb1 ⟨rfl, rfl⟩) (fun r g' hh => ?_)
    obtain ⟨rfl, rfl⟩ := hh
    refine e_callVi (rest := []) [.int x1, .int (g 14 (g 11 6).toNatClampNeg)] (dx D_x_fails 10 rfl) ln_x_fails_214 rfl rfl rfl (Nat.le_of_ble_eq_true rfl) h (fun r3 g2 h => ?_)
    exact e_iret (dx D_x_fails 11 rfl) rfl rfl ⟨_, rfl, h⟩
  · replace h := h.2 (bP_z c)
    refine q_bipush (v := (-2)) (dx D_x_fails 3 rfl) (by decide) ?_
    exact e_iret (dx D_x_fails 4 rfl) rfl rfl ⟨_, rfl, h⟩
abbrev Cx_soonest (g : Sg) (Q : Int32 → Sg → Prop) : Prop := Ci Mx_soonest [.ref 0] g Q
abbrev Hx_soonest_17 (x1 : Int32) (x2 : Int32) (x3 : Int32) (x4 : Int32) (g : Sg) (Q : Int32 → Sg → Prop) : Prop := Hi Mx_soonest 17 [some (.ref 0), some (.int x1), some (.int x2), some (.int x3), some (.int x4), none] [] g Q
set_option maxRecDepth 20000 in
theorem Vx_soonest {g : Sg} {Q : Int32 → Sg → Prop} (h : vp_in (g 11 6) 17 ∧ Hx_soonest_17 (g 14 (g 11 6).toNatClampNeg) (-1) 1000 0 g Q) : Cx_soonest g Q := by
  refine Cl.of 5 pl_X8 rfl ?_
  refine e_aload_n (dx D_x_soonest 0 rfl) rfl ?_
  refine e_getR (dx D_x_soonest 1 rfl) fl_RX8_30 rfl rfl ?_
  obtain ⟨hb1, h⟩ := h
  refine e_callVi (Q1 := fun r g' => (g 14 (g 11 6).toNatClampNeg) = r ∧ g = g') (rest := []) [] (dx D_x_soonest 2 rfl) ln_x_soonest_118 rfl rfl rfl (Nat.le_of_ble_eq_true rfl) (Ib_lyingNow hb1 ⟨rfl, rfl⟩) (fun r g' hh => ?_)
  obtain ⟨rfl, rfl⟩ := hh
  refine q_istore_n (L' := [some (.ref 0), some (.int (g 14 (g 11 6).toNatClampNeg)), none, none, none, none]) (dx D_x_soonest 3 rfl) (by decide) rfl ?_
  refine q_iconst (v := (-1)) (dx D_x_soonest 4 rfl) (by decide) ?_
  refine q_istore_n (L' := [some (.ref 0), some (.int (g 14 (g 11 6).toNatClampNeg)), some (.int (-1)), none, none, none]) (dx D_x_soonest 5 rfl) (by decide) rfl ?_
  refine q_sipush (v := 1000) (dx D_x_soonest 6 rfl) (by decide) ?_
  refine q_istore_n (L' := [some (.ref 0), some (.int (g 14 (g 11 6).toNatClampNeg)), some (.int (-1)), some (.int 1000), none, none]) (dx D_x_soonest 7 rfl) (by decide) rfl ?_
  refine q_iconst (v := 0) (dx D_x_soonest 8 rfl) (by decide) ?_
  refine q_istore (L' := [some (.ref 0), some (.int (g 14 (g 11 6).toNatClampNeg)), some (.int (-1)), some (.int 1000), some (.int 0), none]) (dx D_x_soonest 9 rfl) (by decide) rfl ?_
  exact h
set_option maxRecDepth 20000 in
theorem Vx_soonest_17 {x1 : Int32} {x2 : Int32} {x3 : Int32} {x4 : Int32} {g : Sg} {Q : Int32 → Sg → Prop} (h : ((16 ≤ x4 → Q x2 g) ∧ (¬ 16 ≤ x4 → Cx_failingDay x4 x1 g (fun r2 g1 => ((r2 = (-1) → Hx_soonest_17 x1 x2 x3 (x4 + 1) g1 Q) ∧ (¬ r2 = (-1) → ((x3 ≤ r2 → Hx_soonest_17 x1 x2 x3 (x4 + 1) g1 Q) ∧ (¬ x3 ≤ r2 → Hx_soonest_17 x1 x4 r2 (x4 + 1) g1 Q)))))))) : Hx_soonest_17 x1 x2 x3 x4 g Q := by
  refine e_iload (dx D_x_soonest 10 rfl) rfl ?_
  refine q_bipush (v := 16) (dx D_x_soonest 11 rfl) (by decide) ?_
  refine e_icmp_ge (tgt := 57) (dx D_x_soonest 12 rfl) (by decide) (fun c => ?_) (fun c => ?_)
  · replace h := h.1 c
    refine e_iload_n (dx D_x_soonest 30 rfl) rfl ?_
    exact e_iret (dx D_x_soonest 31 rfl) rfl rfl ⟨_, rfl, h⟩
  · replace h := h.2 c
    refine e_aload_n (dx D_x_soonest 13 rfl) rfl ?_
    refine e_iload (dx D_x_soonest 14 rfl) rfl ?_
    refine e_iload_n (dx D_x_soonest 15 rfl) rfl ?_
    refine e_callVi (rest := []) [.int x4, .int x1] (dx D_x_soonest 16 rfl) ln_x_soonest_214 rfl rfl rfl (Nat.le_of_ble_eq_true rfl) h (fun r2 g1 h => ?_)
    refine q_istore (L' := [some (.ref 0), some (.int x1), some (.int x2), some (.int x3), some (.int x4), some (.int r2)]) (dx D_x_soonest 17 rfl) (by decide) rfl ?_
    refine e_iload (dx D_x_soonest 18 rfl) rfl ?_
    refine q_iconst (v := (-1)) (dx D_x_soonest 19 rfl) (by decide) ?_
    refine e_icmp_eq (tgt := 51) (dx D_x_soonest 20 rfl) (by decide) (fun c => ?_) (fun c => ?_)
    · replace h := h.1 c
      refine q_iinc (d := 1) (L' := [some (.ref 0), some (.int x1), some (.int x2), some (.int x3), some (.int (x4 + 1)), some (.int r2)]) (dx D_x_soonest 28 rfl) rfl (by decide) (by decide) rfl ?_
      refine e_goto (tgt := 17) (dx D_x_soonest 29 rfl) (by decide) ?_
      exact Wp.mask [true, true, true, true, true, false] h
    · replace h := h.2 c
      refine e_iload (dx D_x_soonest 21 rfl) rfl ?_
      refine e_iload_n (dx D_x_soonest 22 rfl) rfl ?_
      refine e_icmp_ge (tgt := 51) (dx D_x_soonest 23 rfl) (by decide) (fun c => ?_) (fun c => ?_)
      · replace h := h.1 c
        refine q_iinc (d := 1) (L' := [some (.ref 0), some (.int x1), some (.int x2), some (.int x3), some (.int (x4 + 1)), some (.int r2)]) (dx D_x_soonest 28 rfl) rfl (by decide) (by decide) rfl ?_
        refine e_goto (tgt := 17) (dx D_x_soonest 29 rfl) (by decide) ?_
        exact Wp.mask [true, true, true, true, true, false] h
      · replace h := h.2 c
        refine e_iload (dx D_x_soonest 24 rfl) rfl ?_
        refine q_istore_n (L' := [some (.ref 0), some (.int x1), some (.int x4), some (.int x3), some (.int x4), some (.int r2)]) (dx D_x_soonest 25 rfl) (by decide) rfl ?_
        refine e_iload (dx D_x_soonest 26 rfl) rfl ?_
        refine q_istore_n (L' := [some (.ref 0), some (.int x1), some (.int x4), some (.int r2), some (.int x4), some (.int r2)]) (dx D_x_soonest 27 rfl) (by decide) rfl ?_
        refine q_iinc (d := 1) (L' := [some (.ref 0), some (.int x1), some (.int x4), some (.int r2), some (.int (x4 + 1)), some (.int r2)]) (dx D_x_soonest 28 rfl) rfl (by decide) (by decide) rfl ?_
        refine e_goto (tgt := 17) (dx D_x_soonest 29 rfl) (by decide) ?_
        exact Wp.mask [true, true, true, true, true, false] h
abbrev Cx_left (x1 : Int32) (g : Sg) (Q : Int32 → Sg → Prop) : Prop := Ci Mx_left [.ref 0, .int x1] g Q
abbrev Hx_left_27 (x1 : Int32) (x2 : Int32) (x3 : Int32) (x4 : Int32) (g : Sg) (Q : Int32 → Sg → Prop) : Prop := Hi Mx_left 27 [some (.ref 0), some (.int x1), some (.int x2), some (.int x3), some (.int x4), none] [] g Q
set_option maxRecDepth 20000 in
theorem Vx_left {x1 : Int32} {g : Sg} {Q : Int32 → Sg → Prop} (h : (((0 ≤ x1 ∧ x1 ≤ 999) → vp_in (g 11 6) 17 ∧ Hx_left_27 x1 (g 14 (g 11 6).toNatClampNeg) (g 14 (g 11 6).toNatClampNeg) 0 g Q) ∧ (¬ (0 ≤ x1 ∧ x1 ≤ 999) → Q (-2) g))) : Cx_left x1 g Q := by
  refine Cl.of 4 pl_X8 rfl ?_
  refine e_iload_n (dx D_x_left 0 rfl) rfl ?_
  refine q_iconst (v := 0) (dx D_x_left 1 rfl) (by decide) ?_
  refine q_sipush (v := 999) (dx D_x_left 2 rfl) (by decide) ?_
  refine e_callSi (Q1 := fun r g' => bP (0 ≤ x1 ∧ x1 ≤ 999) = r ∧ g = g') (rest := []) [.int x1, .int 0, .int 999] (dx D_x_left 3 rfl) ln_x_left_75 rfl rfl (Nat.le_of_ble_eq_true rfl) (Ix_within  ⟨rfl, rfl⟩) (fun r g' hh => ?_)
  obtain ⟨rfl, rfl⟩ := hh
  refine e_if_ne (tgt := 14) (dx D_x_left 4 rfl) (by decide) (fun c => ?_) (fun c => ?_)
  · replace h := h.1 (bP_n c)
    refine e_aload_n (dx D_x_left 7 rfl) rfl ?_
    refine e_getR (dx D_x_left 8 rfl) fl_RX8_30 rfl rfl ?_
    obtain ⟨hb1, h⟩ := h
    refine e_callVi (Q1 := fun r g' => (g 14 (g 11 6).toNatClampNeg) = r ∧ g = g') (rest := []) [] (dx D_x_left 9 rfl) ln_x_left_118 rfl rfl rfl (Nat.le_of_ble_eq_true rfl) (Ib_lyingNow hb1 ⟨rfl, rfl⟩) (fun r g' hh => ?_)
    obtain ⟨rfl, rfl⟩ := hh
    refine q_istore_n (L' := [some (.ref 0), some (.int x1), some (.int (g 14 (g 11 6).toNatClampNeg)), none, none, none]) (dx D_x_left 10 rfl) (by decide) rfl ?_
    refine e_iload_n (dx D_x_left 11 rfl) rfl ?_
    refine q_istore_n (L' := [some (.ref 0), some (.int x1), some (.int (g 14 (g 11 6).toNatClampNeg)), some (.int (g 14 (g 11 6).toNatClampNeg)), none, none]) (dx D_x_left 12 rfl) (by decide) rfl ?_
    refine q_iconst (v := 0) (dx D_x_left 13 rfl) (by decide) ?_
    refine q_istore (L' := [some (.ref 0), some (.int x1), some (.int (g 14 (g 11 6).toNatClampNeg)), some (.int (g 14 (g 11 6).toNatClampNeg)), some (.int 0), none]) (dx D_x_left 14 rfl) (by decide) rfl ?_
    exact h
  · replace h := h.2 (bP_z c)
    refine q_bipush (v := (-2)) (dx D_x_left 5 rfl) (by decide) ?_
    exact e_iret (dx D_x_left 6 rfl) rfl rfl ⟨_, rfl, h⟩
set_option maxRecDepth 20000 in
theorem Vx_left_27 {x1 : Int32} {x2 : Int32} {x3 : Int32} {x4 : Int32} {g : Sg} {Q : Int32 → Sg → Prop} (h : ((16 ≤ x4 → Q x3 g) ∧ (¬ 16 ≤ x4 → Cx_failingDay x4 x2 g (fun r2 g1 => ((r2 = (-1) → Hx_left_27 x1 x2 x3 (x4 + 1) g1 Q) ∧ (¬ r2 = (-1) → ((x1 < r2 → Hx_left_27 x1 x2 x3 (x4 + 1) g1 Q) ∧ (¬ x1 < r2 → Hx_left_27 x1 x2 (x3 &&& ((sb x4) ^^^ (-1))) (x4 + 1) g1 Q)))))))) : Hx_left_27 x1 x2 x3 x4 g Q := by
  refine e_iload (dx D_x_left 15 rfl) rfl ?_
  refine q_bipush (v := 16) (dx D_x_left 16 rfl) (by decide) ?_
  refine e_icmp_ge (tgt := 70) (dx D_x_left 17 rfl) (by decide) (fun c => ?_) (fun c => ?_)
  · replace h := h.1 c
    refine e_iload_n (dx D_x_left 39 rfl) rfl ?_
    exact e_iret (dx D_x_left 40 rfl) rfl rfl ⟨_, rfl, h⟩
  · replace h := h.2 c
    refine e_aload_n (dx D_x_left 18 rfl) rfl ?_
    refine e_iload (dx D_x_left 19 rfl) rfl ?_
    refine e_iload_n (dx D_x_left 20 rfl) rfl ?_
    refine e_callVi (rest := []) [.int x4, .int x2] (dx D_x_left 21 rfl) ln_x_left_214 rfl rfl rfl (Nat.le_of_ble_eq_true rfl) h (fun r2 g1 h => ?_)
    refine q_istore (L' := [some (.ref 0), some (.int x1), some (.int x2), some (.int x3), some (.int x4), some (.int r2)]) (dx D_x_left 22 rfl) (by decide) rfl ?_
    refine e_iload (dx D_x_left 23 rfl) rfl ?_
    refine q_iconst (v := (-1)) (dx D_x_left 24 rfl) (by decide) ?_
    refine e_icmp_eq (tgt := 64) (dx D_x_left 25 rfl) (by decide) (fun c => ?_) (fun c => ?_)
    · replace h := h.1 c
      refine q_iinc (d := 1) (L' := [some (.ref 0), some (.int x1), some (.int x2), some (.int x3), some (.int (x4 + 1)), some (.int r2)]) (dx D_x_left 37 rfl) rfl (by decide) (by decide) rfl ?_
      refine e_goto (tgt := 27) (dx D_x_left 38 rfl) (by decide) ?_
      exact Wp.mask [true, true, true, true, true, false] h
    · replace h := h.2 c
      refine e_iload (dx D_x_left 26 rfl) rfl ?_
      refine e_iload_n (dx D_x_left 27 rfl) rfl ?_
      refine e_icmp_gt (tgt := 64) (dx D_x_left 28 rfl) (by decide) (fun c => ?_) (fun c => ?_)
      · replace h := h.1 c
        refine q_iinc (d := 1) (L' := [some (.ref 0), some (.int x1), some (.int x2), some (.int x3), some (.int (x4 + 1)), some (.int r2)]) (dx D_x_left 37 rfl) rfl (by decide) (by decide) rfl ?_
        refine e_goto (tgt := 27) (dx D_x_left 38 rfl) (by decide) ?_
        exact Wp.mask [true, true, true, true, true, false] h
      · replace h := h.2 c
        refine e_iload_n (dx D_x_left 29 rfl) rfl ?_
        refine q_iconst (v := 1) (dx D_x_left 30 rfl) (by decide) ?_
        refine e_iload (dx D_x_left 31 rfl) rfl ?_
        refine e_ishl (dx D_x_left 32 rfl) ?_
        refine q_iconst (v := (-1)) (dx D_x_left 33 rfl) (by decide) ?_
        refine e_ixor (dx D_x_left 34 rfl) ?_
        refine e_iand (dx D_x_left 35 rfl) ?_
        refine q_istore_n (L' := [some (.ref 0), some (.int x1), some (.int x2), some (.int (x3 &&& ((sb x4) ^^^ (-1)))), some (.int x4), some (.int r2)]) (dx D_x_left 36 rfl) (by decide) rfl ?_
        refine q_iinc (d := 1) (L' := [some (.ref 0), some (.int x1), some (.int x2), some (.int (x3 &&& ((sb x4) ^^^ (-1)))), some (.int (x4 + 1)), some (.int r2)]) (dx D_x_left 37 rfl) rfl (by decide) (by decide) rfl ?_
        refine e_goto (tgt := 27) (dx D_x_left 38 rfl) (by decide) ?_
        exact Wp.mask [true, true, true, true, true, false] h
abbrev Cx_burns (x1 : Int32) (g : Sg) (Q : Int32 → Sg → Prop) : Prop := Ci Mx_burns [.ref 0, .int x1] g Q
set_option maxRecDepth 20000 in
theorem Vx_burns {x1 : Int32} {g : Sg} {Q : Int32 → Sg → Prop} (h : (((0 ≤ x1 ∧ x1 ≤ 65535) → vp_in (g 11 6) 17 ∧ Cb_joinedTo 0 ((g 14 (g 11 6).toNatClampNeg) &&& (x1 ^^^ (-1))) g (fun r3 g2 => Q r3 g2)) ∧ (¬ (0 ≤ x1 ∧ x1 ≤ 65535) → Q (-2) g))) : Cx_burns x1 g Q := by
  refine Cl.of 0 pl_X8 rfl ?_
  refine e_iload_n (dx D_x_burns 0 rfl) rfl ?_
  refine q_iconst (v := 0) (dx D_x_burns 1 rfl) (by decide) ?_
  refine e_ldc (v := 65535) (dx D_x_burns 2 rfl) k498 ?_
  refine e_callSi (Q1 := fun r g' => bP (0 ≤ x1 ∧ x1 ≤ 65535) = r ∧ g = g') (rest := []) [.int x1, .int 0, .int 65535] (dx D_x_burns 3 rfl) ln_x_burns_75 rfl rfl (Nat.le_of_ble_eq_true rfl) (Ix_within  ⟨rfl, rfl⟩) (fun r g' hh => ?_)
  obtain ⟨rfl, rfl⟩ := hh
  refine e_if_ne (tgt := 13) (dx D_x_burns 4 rfl) (by decide) (fun c => ?_) (fun c => ?_)
  · replace h := h.1 (bP_n c)
    refine e_aload_n (dx D_x_burns 7 rfl) rfl ?_
    refine e_getR (dx D_x_burns 8 rfl) fl_RX8_30 rfl rfl ?_
    refine q_iconst (v := 0) (dx D_x_burns 9 rfl) (by decide) ?_
    refine e_aload_n (dx D_x_burns 10 rfl) rfl ?_
    refine e_getR (dx D_x_burns 11 rfl) fl_RX8_30 rfl rfl ?_
    obtain ⟨hb1, h⟩ := h
    refine e_callVi (Q1 := fun r g' => (g 14 (g 11 6).toNatClampNeg) = r ∧ g = g') (rest := [.int 0, .ref 11]) [] (dx D_x_burns 12 rfl) ln_x_burns_118 rfl rfl rfl (Nat.le_of_ble_eq_true rfl) (Ib_lyingNow hb1 ⟨rfl, rfl⟩) (fun r g' hh => ?_)
    obtain ⟨rfl, rfl⟩ := hh
    refine e_iload_n (dx D_x_burns 13 rfl) rfl ?_
    refine q_iconst (v := (-1)) (dx D_x_burns 14 rfl) (by decide) ?_
    refine e_ixor (dx D_x_burns 15 rfl) ?_
    refine e_iand (dx D_x_burns 16 rfl) ?_
    refine e_callVi (rest := []) [.int 0, .int ((g 14 (g 11 6).toNatClampNeg) &&& (x1 ^^^ (-1)))] (dx D_x_burns 17 rfl) ln_x_burns_217 rfl rfl rfl (Nat.le_of_ble_eq_true rfl) h (fun r3 g2 h => ?_)
    exact e_iret (dx D_x_burns 18 rfl) rfl rfl ⟨_, rfl, h⟩
  · replace h := h.2 (bP_z c)
    refine q_bipush (v := (-2)) (dx D_x_burns 5 rfl) (by decide) ?_
    exact e_iret (dx D_x_burns 6 rfl) rfl rfl ⟨_, rfl, h⟩
abbrev Cx_lit (x1 : Int32) (x2 : Int32) (g : Sg) (Q : Int32 → Sg → Prop) : Prop := Ci Mx_lit [.ref 0, .int x1, .int x2] g Q
set_option maxRecDepth 20000 in
theorem Vx_lit {x1 : Int32} {x2 : Int32} {g : Sg} {Q : Int32 → Sg → Prop} (h : (((0 ≤ x1 ∧ x1 ≤ 255) → (((0 ≤ x2 ∧ x2 ≤ 2) → Cl_seek x1 g (fun g1 => ((x2 = 0 → Q (g1 20 3) g1) ∧ (¬ x2 = 0 → ((x2 = 1 → Q (g1 20 4) g1) ∧ (¬ x2 = 1 → Q (g1 20 5) g1)))))) ∧ (¬ (0 ≤ x2 ∧ x2 ≤ 2) → Q (-2) g))) ∧ (¬ (0 ≤ x1 ∧ x1 ≤ 255) → Q (-2) g))) : Cx_lit x1 x2 g Q := by
  refine Cl.of 0 pl_X8 rfl ?_
  refine e_iload_n (dx D_x_lit 0 rfl) rfl ?_
  refine q_iconst (v := 0) (dx D_x_lit 1 rfl) (by decide) ?_
  refine q_sipush (v := 255) (dx D_x_lit 2 rfl) (by decide) ?_
  refine e_callSi (Q1 := fun r g' => bP (0 ≤ x1 ∧ x1 ≤ 255) = r ∧ g = g') (rest := []) [.int x1, .int 0, .int 255] (dx D_x_lit 3 rfl) ln_x_lit_75 rfl rfl (Nat.le_of_ble_eq_true rfl) (Ix_within  ⟨rfl, rfl⟩) (fun r g' hh => ?_)
  obtain ⟨rfl, rfl⟩ := hh
  refine e_if_eq (tgt := 20) (dx D_x_lit 4 rfl) (by decide) (fun c => ?_) (fun c => ?_)
  · replace h := h.2 (bP_z c)
    refine q_bipush (v := (-2)) (dx D_x_lit 10 rfl) (by decide) ?_
    exact e_iret (dx D_x_lit 11 rfl) rfl rfl ⟨_, rfl, h⟩
  · replace h := h.1 (bP_n c)
    refine e_iload_n (dx D_x_lit 5 rfl) rfl ?_
    refine q_iconst (v := 0) (dx D_x_lit 6 rfl) (by decide) ?_
    refine q_iconst (v := 2) (dx D_x_lit 7 rfl) (by decide) ?_
    refine e_callSi (Q1 := fun r g' => bP (0 ≤ x2 ∧ x2 ≤ 2) = r ∧ g = g') (rest := []) [.int x2, .int 0, .int 2] (dx D_x_lit 8 rfl) ln_x_lit_75 rfl rfl (Nat.le_of_ble_eq_true rfl) (Ix_within  ⟨rfl, rfl⟩) (fun r g' hh => ?_)
    obtain ⟨rfl, rfl⟩ := hh
    refine e_if_ne (tgt := 23) (dx D_x_lit 9 rfl) (by decide) (fun c => ?_) (fun c => ?_)
    · replace h := h.1 (bP_n c)
      refine e_aload_n (dx D_x_lit 12 rfl) rfl ?_
      refine e_getR (dx D_x_lit 13 rfl) fl_RX8_46 rfl rfl ?_
      refine e_iload_n (dx D_x_lit 14 rfl) rfl ?_
      refine e_callVv (rest := []) [.int x1] (dx D_x_lit 15 rfl) ln_x_lit_220 rfl rfl rfl (Nat.le_of_ble_eq_true rfl) h (fun g1 h => ?_)
      refine e_iload_n (dx D_x_lit 16 rfl) rfl ?_
      refine e_if_ne (tgt := 43) (dx D_x_lit 17 rfl) (by decide) (fun c => ?_) (fun c => ?_)
      · replace h := h.2 c
        refine e_iload_n (dx D_x_lit 22 rfl) rfl ?_
        refine q_iconst (v := 1) (dx D_x_lit 23 rfl) (by decide) ?_
        refine e_icmp_ne (tgt := 58) (dx D_x_lit 24 rfl) (by decide) (fun c => ?_) (fun c => ?_)
        · replace h := h.2 c
          refine e_aload_n (dx D_x_lit 29 rfl) rfl ?_
          refine e_getR (dx D_x_lit 30 rfl) fl_RX8_46 rfl rfl ?_
          refine e_getI (dx D_x_lit 31 rfl) fl_RX8_229 rfl rfl ?_
          exact e_iret (dx D_x_lit 32 rfl) rfl rfl ⟨_, rfl, h⟩
        · replace h := h.1 c
          refine e_aload_n (dx D_x_lit 25 rfl) rfl ?_
          refine e_getR (dx D_x_lit 26 rfl) fl_RX8_46 rfl rfl ?_
          refine e_getI (dx D_x_lit 27 rfl) fl_RX8_226 rfl rfl ?_
          refine e_goto (tgt := 65) (dx D_x_lit 28 rfl) (by decide) ?_
          exact e_iret (dx D_x_lit 32 rfl) rfl rfl ⟨_, rfl, h⟩
      · replace h := h.1 c
        refine e_aload_n (dx D_x_lit 18 rfl) rfl ?_
        refine e_getR (dx D_x_lit 19 rfl) fl_RX8_46 rfl rfl ?_
        refine e_getI (dx D_x_lit 20 rfl) fl_RX8_223 rfl rfl ?_
        exact e_iret (dx D_x_lit 21 rfl) rfl rfl ⟨_, rfl, h⟩
    · replace h := h.2 (bP_z c)
      refine q_bipush (v := (-2)) (dx D_x_lit 10 rfl) (by decide) ?_
      exact e_iret (dx D_x_lit 11 rfl) rfl rfl ⟨_, rfl, h⟩
abbrev Cx_heard (x1 : Int32) (x2 : Int32) (x3 : Int32) (g : Sg) (Q : Int32 → Sg → Prop) : Prop := Ci Mx_heard [.ref 0, .int x1, .int x2, .int x3] g Q
set_option maxRecDepth 20000 in
theorem Vx_heard {x1 : Int32} {x2 : Int32} {x3 : Int32} {g : Sg} {Q : Int32 → Sg → Prop} (h : (((isE x1) → (((0 ≤ x2 ∧ x2 ≤ 6) → ((((-1) ≤ x3 ∧ x3 ≤ 7) → Cr_follow x1 x2 g (fun g1 => ((x3 = (-1) → Cr_possibleEnds g1 (fun r4 g3 => Q r4 g3)) ∧ (¬ x3 = (-1) → vp_in x3 8 ∧ Q (g1 23 (x3).toNatClampNeg) g1)))) ∧ (¬ ((-1) ≤ x3 ∧ x3 ≤ 7) → Q (-2) g))) ∧ (¬ (0 ≤ x2 ∧ x2 ≤ 6) → Q (-2) g))) ∧ (¬ (isE x1) → Q (-2) g))) : Cx_heard x1 x2 x3 g Q := by
  refine Cl.of 0 pl_X8 rfl ?_
  refine e_iload_n (dx D_x_heard 0 rfl) rfl ?_
  refine e_callSi (Q1 := fun r g' => bP (isE x1) = r ∧ g = g') (rest := []) [.int x1] (dx D_x_heard 1 rfl) ln_x_heard_232 rfl rfl (Nat.le_of_ble_eq_true rfl) (Ix_isEnd  ⟨rfl, rfl⟩) (fun r g' hh => ?_)
  obtain ⟨rfl, rfl⟩ := hh
  refine e_if_eq (tgt := 27) (dx D_x_heard 2 rfl) (by decide) (fun c => ?_) (fun c => ?_)
  · replace h := h.2 (bP_z c)
    refine q_bipush (v := (-2)) (dx D_x_heard 13 rfl) (by decide) ?_
    exact e_iret (dx D_x_heard 14 rfl) rfl rfl ⟨_, rfl, h⟩
  · replace h := h.1 (bP_n c)
    refine e_iload_n (dx D_x_heard 3 rfl) rfl ?_
    refine q_iconst (v := 0) (dx D_x_heard 4 rfl) (by decide) ?_
    refine q_bipush (v := 6) (dx D_x_heard 5 rfl) (by decide) ?_
    refine e_callSi (Q1 := fun r g' => bP (0 ≤ x2 ∧ x2 ≤ 6) = r ∧ g = g') (rest := []) [.int x2, .int 0, .int 6] (dx D_x_heard 6 rfl) ln_x_heard_75 rfl rfl (Nat.le_of_ble_eq_true rfl) (Ix_within  ⟨rfl, rfl⟩) (fun r g' hh => ?_)
    obtain ⟨rfl, rfl⟩ := hh
    refine e_if_eq (tgt := 27) (dx D_x_heard 7 rfl) (by decide) (fun c => ?_) (fun c => ?_)
    · replace h := h.2 (bP_z c)
      refine q_bipush (v := (-2)) (dx D_x_heard 13 rfl) (by decide) ?_
      exact e_iret (dx D_x_heard 14 rfl) rfl rfl ⟨_, rfl, h⟩
    · replace h := h.1 (bP_n c)
      refine e_iload_n (dx D_x_heard 8 rfl) rfl ?_
      refine q_iconst (v := (-1)) (dx D_x_heard 9 rfl) (by decide) ?_
      refine q_bipush (v := 7) (dx D_x_heard 10 rfl) (by decide) ?_
      refine e_callSi (Q1 := fun r g' => bP ((-1) ≤ x3 ∧ x3 ≤ 7) = r ∧ g = g') (rest := []) [.int x3, .int (-1), .int 7] (dx D_x_heard 11 rfl) ln_x_heard_75 rfl rfl (Nat.le_of_ble_eq_true rfl) (Ix_within  ⟨rfl, rfl⟩) (fun r g' hh => ?_)
      obtain ⟨rfl, rfl⟩ := hh
      refine e_if_ne (tgt := 30) (dx D_x_heard 12 rfl) (by decide) (fun c => ?_) (fun c => ?_)
      · replace h := h.1 (bP_n c)
        refine e_aload_n (dx D_x_heard 15 rfl) rfl ?_
        refine e_getR (dx D_x_heard 16 rfl) fl_RX8_53 rfl rfl ?_
        refine e_iload_n (dx D_x_heard 17 rfl) rfl ?_
        refine e_iload_n (dx D_x_heard 18 rfl) rfl ?_
        refine e_callVv (rest := []) [.int x1, .int x2] (dx D_x_heard 19 rfl) ln_x_heard_235 rfl rfl rfl (Nat.le_of_ble_eq_true rfl) h (fun g1 h => ?_)
        refine e_iload_n (dx D_x_heard 20 rfl) rfl ?_
        refine q_iconst (v := (-1)) (dx D_x_heard 21 rfl) (by decide) ?_
        refine e_icmp_ne (tgt := 54) (dx D_x_heard 22 rfl) (by decide) (fun c => ?_) (fun c => ?_)
        · replace h := h.2 c
          refine e_aload_n (dx D_x_heard 27 rfl) rfl ?_
          refine e_getR (dx D_x_heard 28 rfl) fl_RX8_53 rfl rfl ?_
          refine e_getR (dx D_x_heard 29 rfl) fl_RX8_242 rfl rfl ?_
          refine e_iload_n (dx D_x_heard 30 rfl) rfl ?_
          obtain ⟨hb2, h⟩ := h
          refine e_iald (dx D_x_heard 31 rfl) rfl hb2 ?_
          exact e_iret (dx D_x_heard 32 rfl) rfl rfl ⟨_, rfl, h⟩
        · replace h := h.1 c
          refine e_aload_n (dx D_x_heard 23 rfl) rfl ?_
          refine e_getR (dx D_x_heard 24 rfl) fl_RX8_53 rfl rfl ?_
          refine e_callVi (rest := []) [] (dx D_x_heard 25 rfl) ln_x_heard_239 rfl rfl rfl (Nat.le_of_ble_eq_true rfl) h (fun r4 g3 h => ?_)
          refine e_goto (tgt := 63) (dx D_x_heard 26 rfl) (by decide) ?_
          exact e_iret (dx D_x_heard 32 rfl) rfl rfl ⟨_, rfl, h⟩
      · replace h := h.2 (bP_z c)
        refine q_bipush (v := (-2)) (dx D_x_heard 13 rfl) (by decide) ?_
        exact e_iret (dx D_x_heard 14 rfl) rfl rfl ⟨_, rfl, h⟩
abbrev Cx_meet (x1 : Int32) (x2 : Int32) (x3 : Int32) (x4 : Int32) (g : Sg) (Q : Int32 → Sg → Prop) : Prop := Ci Mx_meet [.ref 0, .int x1, .int x2, .int x3, .int x4] g Q
set_option maxRecDepth 20000 in
theorem Vx_meet {x1 : Int32} {x2 : Int32} {x3 : Int32} {x4 : Int32} {g : Sg} {Q : Int32 → Sg → Prop} (h : (((0 ≤ x1 ∧ x1 ≤ g 1 8 - 1) → (((0 ≤ x4 ∧ x4 ≤ 1) → (((0 ≤ x2 ∧ x2 ≤ 999) → (((0 ≤ x3 ∧ x3 ≤ 999) → vp_in x1 16 ∧ (((if 0 ≤ (x2 - x3) then (x2 - x3) else 0 - (x2 - x3)) < (g 5 (x1).toNatClampNeg) → ((x4 = 0 → Q (((g 5 (x1).toNatClampNeg) + x3) - x2) g) ∧ (¬ x4 = 0 → ((x3 ≤ x2 → Q 0 g) ∧ (¬ x3 ≤ x2 → Q 1 g))))) ∧ (¬ (if 0 ≤ (x2 - x3) then (x2 - x3) else 0 - (x2 - x3)) < (g 5 (x1).toNatClampNeg) → Q (-1) g))) ∧ (¬ (0 ≤ x3 ∧ x3 ≤ 999) → Q (-2) g))) ∧ (¬ (0 ≤ x2 ∧ x2 ≤ 999) → Q (-2) g))) ∧ (¬ (0 ≤ x4 ∧ x4 ≤ 1) → Q (-2) g))) ∧ (¬ (0 ≤ x1 ∧ x1 ≤ g 1 8 - 1) → Q (-2) g))) : Cx_meet x1 x2 x3 x4 g Q := by
  refine Cl.of 1 pl_X8 rfl ?_
  refine e_aload_n (dx D_x_meet 0 rfl) rfl ?_
  refine e_getR (dx D_x_meet 1 rfl) fl_RX8_10 rfl rfl ?_
  refine e_iload_n (dx D_x_meet 2 rfl) rfl ?_
  refine e_callVi (Q1 := fun r g' => bP (0 ≤ x1 ∧ x1 ≤ g 1 8 - 1) = r ∧ g = g') (rest := []) [.int x1] (dx D_x_meet 3 rfl) ln_x_meet_101 rfl rfl rfl (Nat.le_of_ble_eq_true rfl) (Ip_hasPipe  ⟨rfl, rfl⟩) (fun r g' hh => ?_)
  obtain ⟨rfl, rfl⟩ := hh
  refine e_if_eq (tgt := 21) (dx D_x_meet 4 rfl) (by decide) (fun c => ?_) (fun c => ?_)
  · replace h := h.2 (bP_z c)
    refine q_bipush (v := (-2)) (dx D_x_meet 10 rfl) (by decide) ?_
    exact e_iret (dx D_x_meet 11 rfl) rfl rfl ⟨_, rfl, h⟩
  · replace h := h.1 (bP_n c)
    refine e_iload (dx D_x_meet 5 rfl) rfl ?_
    refine q_iconst (v := 0) (dx D_x_meet 6 rfl) (by decide) ?_
    refine q_iconst (v := 1) (dx D_x_meet 7 rfl) (by decide) ?_
    refine e_callSi (Q1 := fun r g' => bP (0 ≤ x4 ∧ x4 ≤ 1) = r ∧ g = g') (rest := []) [.int x4, .int 0, .int 1] (dx D_x_meet 8 rfl) ln_x_meet_75 rfl rfl (Nat.le_of_ble_eq_true rfl) (Ix_within  ⟨rfl, rfl⟩) (fun r g' hh => ?_)
    obtain ⟨rfl, rfl⟩ := hh
    refine e_if_ne (tgt := 24) (dx D_x_meet 9 rfl) (by decide) (fun c => ?_) (fun c => ?_)
    · replace h := h.1 (bP_n c)
      refine e_iload_n (dx D_x_meet 12 rfl) rfl ?_
      refine q_iconst (v := 0) (dx D_x_meet 13 rfl) (by decide) ?_
      refine q_sipush (v := 999) (dx D_x_meet 14 rfl) (by decide) ?_
      refine e_callSi (Q1 := fun r g' => bP (0 ≤ x2 ∧ x2 ≤ 999) = r ∧ g = g') (rest := []) [.int x2, .int 0, .int 999] (dx D_x_meet 15 rfl) ln_x_meet_75 rfl rfl (Nat.le_of_ble_eq_true rfl) (Ix_within  ⟨rfl, rfl⟩) (fun r g' hh => ?_)
      obtain ⟨rfl, rfl⟩ := hh
      refine e_if_eq (tgt := 46) (dx D_x_meet 16 rfl) (by decide) (fun c => ?_) (fun c => ?_)
      · replace h := h.2 (bP_z c)
        refine q_bipush (v := (-2)) (dx D_x_meet 22 rfl) (by decide) ?_
        exact e_iret (dx D_x_meet 23 rfl) rfl rfl ⟨_, rfl, h⟩
      · replace h := h.1 (bP_n c)
        refine e_iload_n (dx D_x_meet 17 rfl) rfl ?_
        refine q_iconst (v := 0) (dx D_x_meet 18 rfl) (by decide) ?_
        refine q_sipush (v := 999) (dx D_x_meet 19 rfl) (by decide) ?_
        refine e_callSi (Q1 := fun r g' => bP (0 ≤ x3 ∧ x3 ≤ 999) = r ∧ g = g') (rest := []) [.int x3, .int 0, .int 999] (dx D_x_meet 20 rfl) ln_x_meet_75 rfl rfl (Nat.le_of_ble_eq_true rfl) (Ix_within  ⟨rfl, rfl⟩) (fun r g' hh => ?_)
        obtain ⟨rfl, rfl⟩ := hh
        refine e_if_ne (tgt := 49) (dx D_x_meet 21 rfl) (by decide) (fun c => ?_) (fun c => ?_)
        · replace h := h.1 (bP_n c)
          refine e_aload_n (dx D_x_meet 24 rfl) rfl ?_
          refine e_getR (dx D_x_meet 25 rfl) fl_RX8_10 rfl rfl ?_
          refine e_getR (dx D_x_meet 26 rfl) fl_RX8_112 rfl rfl ?_
          refine e_iload_n (dx D_x_meet 27 rfl) rfl ?_
          obtain ⟨hb1, h⟩ := h
          refine e_iald (dx D_x_meet 28 rfl) rfl hb1 ?_
          refine q_istore (L' := [some (.ref 0), some (.int x1), some (.int x2), some (.int x3), some (.int x4), some (.int (g 5 (x1).toNatClampNeg))]) (dx D_x_meet 29 rfl) (by decide) rfl ?_
          refine e_iload_n (dx D_x_meet 30 rfl) rfl ?_
          refine e_iload_n (dx D_x_meet 31 rfl) rfl ?_
          refine e_isub (dx D_x_meet 32 rfl) ?_
          refine e_mabs (dx D_x_meet 33 rfl) mk_RX8_245 (by decide) (Nat.le_of_ble_eq_true rfl) ?_
          refine e_iload (dx D_x_meet 34 rfl) rfl ?_
          refine e_icmp_lt (tgt := 73) (dx D_x_meet 35 rfl) (by decide) (fun c => ?_) (fun c => ?_)
          · replace h := h.1 c
            refine e_iload (dx D_x_meet 38 rfl) rfl ?_
            refine e_if_ne (tgt := 85) (dx D_x_meet 39 rfl) (by decide) (fun c => ?_) (fun c => ?_)
            · replace h := h.2 c
              refine e_iload_n (dx D_x_meet 46 rfl) rfl ?_
              refine e_iload_n (dx D_x_meet 47 rfl) rfl ?_
              refine e_icmp_le (tgt := 94) (dx D_x_meet 48 rfl) (by decide) (fun c => ?_) (fun c => ?_)
              · replace h := h.1 c
                refine q_iconst (v := 0) (dx D_x_meet 51 rfl) (by decide) ?_
                exact e_iret (dx D_x_meet 52 rfl) rfl rfl ⟨_, rfl, h⟩
              · replace h := h.2 c
                refine q_iconst (v := 1) (dx D_x_meet 49 rfl) (by decide) ?_
                refine e_goto (tgt := 95) (dx D_x_meet 50 rfl) (by decide) ?_
                exact e_iret (dx D_x_meet 52 rfl) rfl rfl ⟨_, rfl, h⟩
            · replace h := h.1 c
              refine e_iload (dx D_x_meet 40 rfl) rfl ?_
              refine e_iload_n (dx D_x_meet 41 rfl) rfl ?_
              refine e_iadd (dx D_x_meet 42 rfl) ?_
              refine e_iload_n (dx D_x_meet 43 rfl) rfl ?_
              refine e_isub (dx D_x_meet 44 rfl) ?_
              exact e_iret (dx D_x_meet 45 rfl) rfl rfl ⟨_, rfl, h⟩
          · replace h := h.2 c
            refine q_iconst (v := (-1)) (dx D_x_meet 36 rfl) (by decide) ?_
            exact e_iret (dx D_x_meet 37 rfl) rfl rfl ⟨_, rfl, h⟩
        · replace h := h.2 (bP_z c)
          refine q_bipush (v := (-2)) (dx D_x_meet 22 rfl) (by decide) ?_
          exact e_iret (dx D_x_meet 23 rfl) rfl rfl ⟨_, rfl, h⟩
    · replace h := h.2 (bP_z c)
      refine q_bipush (v := (-2)) (dx D_x_meet 10 rfl) (by decide) ?_
      exact e_iret (dx D_x_meet 11 rfl) rfl rfl ⟨_, rfl, h⟩
abbrev Cx_drowsy (x1 : Int32) (x2 : Int32) (x3 : Int32) (g : Sg) (Q : Int32 → Sg → Prop) : Prop := Ci Mx_drowsy [.ref 0, .int x1, .int x2, .int x3] g Q
set_option maxRecDepth 20000 in
theorem Vx_drowsy {x1 : Int32} {x2 : Int32} {x3 : Int32} {g : Sg} {Q : Int32 → Sg → Prop} (h : (((isE x2) → (((0 ≤ x3 ∧ x3 ≤ 20) → Cr_stroll x1 x2 x3 g (fun r2 g1 => Q r2 g1)) ∧ (¬ (0 ≤ x3 ∧ x3 ≤ 20) → Q (-2) g))) ∧ (¬ (isE x2) → Q (-2) g))) : Cx_drowsy x1 x2 x3 g Q := by
  refine Cl.of 0 pl_X8 rfl ?_
  refine e_iload_n (dx D_x_drowsy 0 rfl) rfl ?_
  refine e_callSi (Q1 := fun r g' => bP (isE x2) = r ∧ g = g') (rest := []) [.int x2] (dx D_x_drowsy 1 rfl) ln_x_drowsy_232 rfl rfl (Nat.le_of_ble_eq_true rfl) (Ix_isEnd  ⟨rfl, rfl⟩) (fun r g' hh => ?_)
  obtain ⟨rfl, rfl⟩ := hh
  refine e_if_eq (tgt := 17) (dx D_x_drowsy 2 rfl) (by decide) (fun c => ?_) (fun c => ?_)
  · replace h := h.2 (bP_z c)
    refine q_bipush (v := (-2)) (dx D_x_drowsy 8 rfl) (by decide) ?_
    exact e_iret (dx D_x_drowsy 9 rfl) rfl rfl ⟨_, rfl, h⟩
  · replace h := h.1 (bP_n c)
    refine e_iload_n (dx D_x_drowsy 3 rfl) rfl ?_
    refine q_iconst (v := 0) (dx D_x_drowsy 4 rfl) (by decide) ?_
    refine q_bipush (v := 20) (dx D_x_drowsy 5 rfl) (by decide) ?_
    refine e_callSi (Q1 := fun r g' => bP (0 ≤ x3 ∧ x3 ≤ 20) = r ∧ g = g') (rest := []) [.int x3, .int 0, .int 20] (dx D_x_drowsy 6 rfl) ln_x_drowsy_75 rfl rfl (Nat.le_of_ble_eq_true rfl) (Ix_within  ⟨rfl, rfl⟩) (fun r g' hh => ?_)
    obtain ⟨rfl, rfl⟩ := hh
    refine e_if_ne (tgt := 20) (dx D_x_drowsy 7 rfl) (by decide) (fun c => ?_) (fun c => ?_)
    · replace h := h.1 (bP_n c)
      refine e_aload_n (dx D_x_drowsy 10 rfl) rfl ?_
      refine e_getR (dx D_x_drowsy 11 rfl) fl_RX8_53 rfl rfl ?_
      refine e_iload_n (dx D_x_drowsy 12 rfl) rfl ?_
      refine e_iload_n (dx D_x_drowsy 13 rfl) rfl ?_
      refine e_iload_n (dx D_x_drowsy 14 rfl) rfl ?_
      refine e_callVi (rest := []) [.int x1, .int x2, .int x3] (dx D_x_drowsy 15 rfl) ln_x_drowsy_250 rfl rfl rfl (Nat.le_of_ble_eq_true rfl) h (fun r2 g1 h => ?_)
      exact e_iret (dx D_x_drowsy 16 rfl) rfl rfl ⟨_, rfl, h⟩
    · replace h := h.2 (bP_z c)
      refine q_bipush (v := (-2)) (dx D_x_drowsy 8 rfl) (by decide) ?_
      exact e_iret (dx D_x_drowsy 9 rfl) rfl rfl ⟨_, rfl, h⟩
abbrev Cx_chalk (x1 : Int32) (x2 : Int32) (x3 : Int32) (g : Sg) (Q : Int32 → Sg → Prop) : Prop := Ci Mx_chalk [.ref 0, .int x1, .int x2, .int x3] g Q
set_option maxRecDepth 20000 in
theorem Vx_chalk {x1 : Int32} {x2 : Int32} {x3 : Int32} {g : Sg} {Q : Int32 → Sg → Prop} (h : (((isW x1) → (((twoE x2 x3) → Cj_addMark x1 ((sb x2) ||| (sb x3)) g (fun r2 g1 => Q r2 g1)) ∧ (¬ (twoE x2 x3) → Q (-2) g))) ∧ (¬ (isW x1) → Q (-2) g))) : Cx_chalk x1 x2 x3 g Q := by
  refine Cl.of 0 pl_X8 rfl ?_
  refine e_iload_n (dx D_x_chalk 0 rfl) rfl ?_
  refine e_callSi (Q1 := fun r g' => bP (isW x1) = r ∧ g = g') (rest := []) [.int x1] (dx D_x_chalk 1 rfl) ln_x_chalk_150 rfl rfl (Nat.le_of_ble_eq_true rfl) (Ix_isWire  ⟨rfl, rfl⟩) (fun r g' hh => ?_)
  obtain ⟨rfl, rfl⟩ := hh
  refine e_if_eq (tgt := 15) (dx D_x_chalk 2 rfl) (by decide) (fun c => ?_) (fun c => ?_)
  · replace h := h.2 (bP_z c)
    refine q_bipush (v := (-2)) (dx D_x_chalk 7 rfl) (by decide) ?_
    exact e_iret (dx D_x_chalk 8 rfl) rfl rfl ⟨_, rfl, h⟩
  · replace h := h.1 (bP_n c)
    refine e_iload_n (dx D_x_chalk 3 rfl) rfl ?_
    refine e_iload_n (dx D_x_chalk 4 rfl) rfl ?_
    refine e_callSi (Q1 := fun r g' => bP (twoE x2 x3) = r ∧ g = g') (rest := []) [.int x2, .int x3] (dx D_x_chalk 5 rfl) ln_x_chalk_143 rfl rfl (Nat.le_of_ble_eq_true rfl) (Ix_areTwoEnds  ⟨rfl, rfl⟩) (fun r g' hh => ?_)
    obtain ⟨rfl, rfl⟩ := hh
    refine e_if_ne (tgt := 18) (dx D_x_chalk 6 rfl) (by decide) (fun c => ?_) (fun c => ?_)
    · replace h := h.1 (bP_n c)
      refine e_aload_n (dx D_x_chalk 9 rfl) rfl ?_
      refine e_getR (dx D_x_chalk 10 rfl) fl_RX8_60 rfl rfl ?_
      refine e_iload_n (dx D_x_chalk 11 rfl) rfl ?_
      refine e_iload_n (dx D_x_chalk 12 rfl) rfl ?_
      refine e_callSi (Q1 := fun r g' => (sb x2) = r ∧ g = g') (rest := [.int x1, .ref 26]) [.int x2] (dx D_x_chalk 13 rfl) ln_x_chalk_254 rfl rfl (Nat.le_of_ble_eq_true rfl) (Ix_bit  ⟨rfl, rfl⟩) (fun r g' hh => ?_)
      obtain ⟨rfl, rfl⟩ := hh
      refine e_iload_n (dx D_x_chalk 14 rfl) rfl ?_
      refine e_callSi (Q1 := fun r g' => (sb x3) = r ∧ g = g') (rest := [.int (sb x2), .int x1, .ref 26]) [.int x3] (dx D_x_chalk 15 rfl) ln_x_chalk_254 rfl rfl (Nat.le_of_ble_eq_true rfl) (Ix_bit  ⟨rfl, rfl⟩) (fun r g' hh => ?_)
      obtain ⟨rfl, rfl⟩ := hh
      refine e_ior (dx D_x_chalk 16 rfl) ?_
      refine e_callVi (rest := []) [.int x1, .int ((sb x2) ||| (sb x3))] (dx D_x_chalk 17 rfl) ln_x_chalk_257 rfl rfl rfl (Nat.le_of_ble_eq_true rfl) h (fun r2 g1 h => ?_)
      exact e_iret (dx D_x_chalk 18 rfl) rfl rfl ⟨_, rfl, h⟩
    · replace h := h.2 (bP_z c)
      refine q_bipush (v := (-2)) (dx D_x_chalk 7 rfl) (by decide) ?_
      exact e_iret (dx D_x_chalk 8 rfl) rfl rfl ⟨_, rfl, h⟩
abbrev Cx_lies (g : Sg) (Q : Int32 → Sg → Prop) : Prop := Ci Mx_lies [.ref 0] g Q
abbrev Hx_lies_12 (x1 : Int32) (x2 : Int32) (x3 : Int32) (g : Sg) (Q : Int32 → Sg → Prop) : Prop := Hi Mx_lies 12 [some (.ref 0), some (.int x1), some (.int x2), some (.int x3), none] [] g Q
set_option maxRecDepth 20000 in
theorem Vx_lies {g : Sg} {Q : Int32 → Sg → Prop} (h : vp_in (g 11 6) 17 ∧ Hx_lies_12 (g 14 (g 11 6).toNatClampNeg) 0 0 g Q) : Cx_lies g Q := by
  refine Cl.of 4 pl_X8 rfl ?_
  refine e_aload_n (dx D_x_lies 0 rfl) rfl ?_
  refine e_getR (dx D_x_lies 1 rfl) fl_RX8_30 rfl rfl ?_
  obtain ⟨hb1, h⟩ := h
  refine e_callVi (Q1 := fun r g' => (g 14 (g 11 6).toNatClampNeg) = r ∧ g = g') (rest := []) [] (dx D_x_lies 2 rfl) ln_x_lies_118 rfl rfl rfl (Nat.le_of_ble_eq_true rfl) (Ib_lyingNow hb1 ⟨rfl, rfl⟩) (fun r g' hh => ?_)
  obtain ⟨rfl, rfl⟩ := hh
  refine q_istore_n (L' := [some (.ref 0), some (.int (g 14 (g 11 6).toNatClampNeg)), none, none, none]) (dx D_x_lies 3 rfl) (by decide) rfl ?_
  refine q_iconst (v := 0) (dx D_x_lies 4 rfl) (by decide) ?_
  refine q_istore_n (L' := [some (.ref 0), some (.int (g 14 (g 11 6).toNatClampNeg)), some (.int 0), none, none]) (dx D_x_lies 5 rfl) (by decide) rfl ?_
  refine q_iconst (v := 0) (dx D_x_lies 6 rfl) (by decide) ?_
  refine q_istore_n (L' := [some (.ref 0), some (.int (g 14 (g 11 6).toNatClampNeg)), some (.int 0), some (.int 0), none]) (dx D_x_lies 7 rfl) (by decide) rfl ?_
  exact h
set_option maxRecDepth 20000 in
theorem Vx_lies_12 {x1 : Int32} {x2 : Int32} {x3 : Int32} {g : Sg} {Q : Int32 → Sg → Prop} (h : (((g 26 3) ≤ x3 → Q x2 g) ∧ (¬ (g 26 3) ≤ x3 → vp_in x3 8 ∧ (((tbb x1 (g 27 (x3).toNatClampNeg) = true) → vp_in (g 27 (x3).toNatClampNeg) 16 ∧ vp_in x3 8 ∧ (((sb (g 12 (g 27 (x3).toNatClampNeg).toNatClampNeg) ||| sb (g 13 (g 27 (x3).toNatClampNeg).toNatClampNeg)) = (g 28 (x3).toNatClampNeg) → Hx_lies_12 x1 x2 (x3 + 1) g Q) ∧ (¬ (sb (g 12 (g 27 (x3).toNatClampNeg).toNatClampNeg) ||| sb (g 13 (g 27 (x3).toNatClampNeg).toNatClampNeg)) = (g 28 (x3).toNatClampNeg) → Hx_lies_12 x1 (x2 ||| (sb x3)) (x3 + 1) g Q))) ∧ (¬ (tbb x1 (g 27 (x3).toNatClampNeg) = true) → Hx_lies_12 x1 (x2 ||| (sb x3)) (x3 + 1) g Q))))) : Hx_lies_12 x1 x2 x3 g Q := by
  refine e_iload_n (dx D_x_lies 8 rfl) rfl ?_
  refine e_aload_n (dx D_x_lies 9 rfl) rfl ?_
  refine e_getR (dx D_x_lies 10 rfl) fl_RX8_60 rfl rfl ?_
  refine e_getI (dx D_x_lies 11 rfl) fl_RX8_260 rfl rfl ?_
  refine e_icmp_ge (tgt := 77) (dx D_x_lies 12 rfl) (by decide) (fun c => ?_) (fun c => ?_)
  · replace h := h.1 c
    refine e_iload_n (dx D_x_lies 40 rfl) rfl ?_
    exact e_iret (dx D_x_lies 41 rfl) rfl rfl ⟨_, rfl, h⟩
  · replace h := h.2 c
    refine e_aload_n (dx D_x_lies 13 rfl) rfl ?_
    refine e_getR (dx D_x_lies 14 rfl) fl_RX8_60 rfl rfl ?_
    refine e_getR (dx D_x_lies 15 rfl) fl_RX8_263 rfl rfl ?_
    refine e_iload_n (dx D_x_lies 16 rfl) rfl ?_
    obtain ⟨hb1, h⟩ := h
    refine e_iald (dx D_x_lies 17 rfl) rfl hb1 ?_
    refine q_istore (L' := [some (.ref 0), some (.int x1), some (.int x2), some (.int x3), some (.int (g 27 (x3).toNatClampNeg))]) (dx D_x_lies 18 rfl) (by decide) rfl ?_
    refine e_iload_n (dx D_x_lies 19 rfl) rfl ?_
    refine e_iload (dx D_x_lies 20 rfl) rfl ?_
    refine e_callSi (Q1 := fun r g' => bP (tbb x1 (g 27 (x3).toNatClampNeg) = true) = r ∧ g = g') (rest := []) [.int x1, .int (g 27 (x3).toNatClampNeg)] (dx D_x_lies 21 rfl) ln_x_lies_187 rfl rfl (Nat.le_of_ble_eq_true rfl) (Ix_hasBit  ⟨rfl, rfl⟩) (fun r g' hh => ?_)
    obtain ⟨rfl, rfl⟩ := hh
    refine e_if_eq (tgt := 64) (dx D_x_lies 22 rfl) (by decide) (fun c => ?_) (fun c => ?_)
    · replace h := h.2 (bP_z c)
      refine e_iload_n (dx D_x_lies 33 rfl) rfl ?_
      refine e_iload_n (dx D_x_lies 34 rfl) rfl ?_
      refine e_callSi (Q1 := fun r g' => (sb x3) = r ∧ g = g') (rest := [.int x2]) [.int x3] (dx D_x_lies 35 rfl) ln_x_lies_254 rfl rfl (Nat.le_of_ble_eq_true rfl) (Ix_bit  ⟨rfl, rfl⟩) (fun r g' hh => ?_)
      obtain ⟨rfl, rfl⟩ := hh
      refine e_ior (dx D_x_lies 36 rfl) ?_
      refine q_istore_n (L' := [some (.ref 0), some (.int x1), some (.int (x2 ||| (sb x3))), some (.int x3), some (.int (g 27 (x3).toNatClampNeg))]) (dx D_x_lies 37 rfl) (by decide) rfl ?_
      refine q_iinc (d := 1) (L' := [some (.ref 0), some (.int x1), some (.int (x2 ||| (sb x3))), some (.int (x3 + 1)), some (.int (g 27 (x3).toNatClampNeg))]) (dx D_x_lies 38 rfl) rfl (by decide) (by decide) rfl ?_
      refine e_goto (tgt := 12) (dx D_x_lies 39 rfl) (by decide) ?_
      exact Wp.mask [true, true, true, true, false] h
    · replace h := h.1 (bP_n c)
      refine e_aload_n (dx D_x_lies 23 rfl) rfl ?_
      refine e_getR (dx D_x_lies 24 rfl) fl_RX8_30 rfl rfl ?_
      refine e_iload (dx D_x_lies 25 rfl) rfl ?_
      obtain ⟨hb2, h⟩ := h
      refine e_callVi (Q1 := fun r g' => (sb (g 12 (g 27 (x3).toNatClampNeg).toNatClampNeg) ||| sb (g 13 (g 27 (x3).toNatClampNeg).toNatClampNeg)) = r ∧ g = g') (rest := []) [.int (g 27 (x3).toNatClampNeg)] (dx D_x_lies 26 rfl) ln_x_lies_266 rfl rfl rfl (Nat.le_of_ble_eq_true rfl) (Ib_endsOf hb2 ⟨rfl, rfl⟩) (fun r g' hh => ?_)
      obtain ⟨rfl, rfl⟩ := hh
      refine e_aload_n (dx D_x_lies 27 rfl) rfl ?_
      refine e_getR (dx D_x_lies 28 rfl) fl_RX8_60 rfl rfl ?_
      refine e_getR (dx D_x_lies 29 rfl) fl_RX8_269 rfl rfl ?_
      refine e_iload_n (dx D_x_lies 30 rfl) rfl ?_
      obtain ⟨hb3, h⟩ := h
      refine e_iald (dx D_x_lies 31 rfl) rfl hb3 ?_
      refine e_icmp_eq (tgt := 71) (dx D_x_lies 32 rfl) (by decide) (fun c => ?_) (fun c => ?_)
      · replace h := h.1 c
        refine q_iinc (d := 1) (L' := [some (.ref 0), some (.int x1), some (.int x2), some (.int (x3 + 1)), some (.int (g 27 (x3).toNatClampNeg))]) (dx D_x_lies 38 rfl) rfl (by decide) (by decide) rfl ?_
        refine e_goto (tgt := 12) (dx D_x_lies 39 rfl) (by decide) ?_
        exact Wp.mask [true, true, true, true, false] h
      · replace h := h.2 c
        refine e_iload_n (dx D_x_lies 33 rfl) rfl ?_
        refine e_iload_n (dx D_x_lies 34 rfl) rfl ?_
        refine e_callSi (Q1 := fun r g' => (sb x3) = r ∧ g = g') (rest := [.int x2]) [.int x3] (dx D_x_lies 35 rfl) ln_x_lies_254 rfl rfl (Nat.le_of_ble_eq_true rfl) (Ix_bit  ⟨rfl, rfl⟩) (fun r g' hh => ?_)
        obtain ⟨rfl, rfl⟩ := hh
        refine e_ior (dx D_x_lies 36 rfl) ?_
        refine q_istore_n (L' := [some (.ref 0), some (.int x1), some (.int (x2 ||| (sb x3))), some (.int x3), some (.int (g 27 (x3).toNatClampNeg))]) (dx D_x_lies 37 rfl) (by decide) rfl ?_
        refine q_iinc (d := 1) (L' := [some (.ref 0), some (.int x1), some (.int (x2 ||| (sb x3))), some (.int (x3 + 1)), some (.int (g 27 (x3).toNatClampNeg))]) (dx D_x_lies 38 rfl) rfl (by decide) (by decide) rfl ?_
        refine e_goto (tgt := 12) (dx D_x_lies 39 rfl) (by decide) ?_
        exact Wp.mask [true, true, true, true, false] h
abbrev Cx_scene (x1 : Int32) (g : Sg) (Q : Int32 → Sg → Prop) : Prop := Ci Mx_scene [.ref 0, .int x1] g Q
set_option maxRecDepth 20000 in
theorem Vx_scene {x1 : Int32} {g : Sg} {Q : Int32 → Sg → Prop} (h : (((0 ≤ x1 ∧ x1 ≤ 255) → Cj_addScene x1 g (fun r2 g1 => Q r2 g1)) ∧ (¬ (0 ≤ x1 ∧ x1 ≤ 255) → Q (-2) g))) : Cx_scene x1 g Q := by
  refine Cl.of 0 pl_X8 rfl ?_
  refine e_iload_n (dx D_x_scene 0 rfl) rfl ?_
  refine q_iconst (v := 0) (dx D_x_scene 1 rfl) (by decide) ?_
  refine q_sipush (v := 255) (dx D_x_scene 2 rfl) (by decide) ?_
  refine e_callSi (Q1 := fun r g' => bP (0 ≤ x1 ∧ x1 ≤ 255) = r ∧ g = g') (rest := []) [.int x1, .int 0, .int 255] (dx D_x_scene 3 rfl) ln_x_scene_75 rfl rfl (Nat.le_of_ble_eq_true rfl) (Ix_within  ⟨rfl, rfl⟩) (fun r g' hh => ?_)
  obtain ⟨rfl, rfl⟩ := hh
  refine e_if_ne (tgt := 14) (dx D_x_scene 4 rfl) (by decide) (fun c => ?_) (fun c => ?_)
  · replace h := h.1 (bP_n c)
    refine e_aload_n (dx D_x_scene 7 rfl) rfl ?_
    refine e_getR (dx D_x_scene 8 rfl) fl_RX8_60 rfl rfl ?_
    refine e_iload_n (dx D_x_scene 9 rfl) rfl ?_
    refine e_callVi (rest := []) [.int x1] (dx D_x_scene 10 rfl) ln_x_scene_272 rfl rfl rfl (Nat.le_of_ble_eq_true rfl) h (fun r2 g1 h => ?_)
    exact e_iret (dx D_x_scene 11 rfl) rfl rfl ⟨_, rfl, h⟩
  · replace h := h.2 (bP_z c)
    refine q_bipush (v := (-2)) (dx D_x_scene 5 rfl) (by decide) ?_
    exact e_iret (dx D_x_scene 6 rfl) rfl rfl ⟨_, rfl, h⟩
abbrev Cx_burningBehind (x1 : Int32) (g : Sg) (Q : Int32 → Sg → Prop) : Prop := Ci Mx_burningBehind [.ref 0, .int x1] g Q
set_option maxRecDepth 20000 in
theorem Vx_burningBehind {x1 : Int32} {g : Sg} {Q : Int32 → Sg → Prop} (h : vp_in x1 17 ∧ Cb_joinedTo 0 (g 14 (x1).toNatClampNeg) g (fun r3 g2 => Q r3 g2)) : Cx_burningBehind x1 g Q := by
  refine Cl.of 0 pl_X8 rfl ?_
  refine e_aload_n (dx D_x_burningBehind 0 rfl) rfl ?_
  refine e_getR (dx D_x_burningBehind 1 rfl) fl_RX8_30 rfl rfl ?_
  refine q_iconst (v := 0) (dx D_x_burningBehind 2 rfl) (by decide) ?_
  refine e_aload_n (dx D_x_burningBehind 3 rfl) rfl ?_
  refine e_getR (dx D_x_burningBehind 4 rfl) fl_RX8_30 rfl rfl ?_
  refine e_getR (dx D_x_burningBehind 5 rfl) fl_RX8_178 rfl rfl ?_
  refine e_iload_n (dx D_x_burningBehind 6 rfl) rfl ?_
  obtain ⟨hb1, h⟩ := h
  refine e_iald (dx D_x_burningBehind 7 rfl) rfl hb1 ?_
  refine e_callVi (rest := []) [.int 0, .int (g 14 (x1).toNatClampNeg)] (dx D_x_burningBehind 8 rfl) ln_x_burningBehind_217 rfl rfl rfl (Nat.le_of_ble_eq_true rfl) h (fun r3 g2 h => ?_)
  exact e_iret (dx D_x_burningBehind 9 rfl) rfl rfl ⟨_, rfl, h⟩
abbrev Cx_scenes (x1 : Int32) (g : Sg) (Q : Int32 → Sg → Prop) : Prop := Ci Mx_scenes [.ref 0, .int x1] g Q
abbrev Hx_scenes_22 (x2 : Int32) (x3 : Int32) (x4 : Int32) (g : Sg) (Q : Int32 → Sg → Prop) : Prop := Hi Mx_scenes 22 [some (.ref 0), none, some (.int x2), some (.int x3), some (.int x4)] [] g Q
set_option maxRecDepth 20000 in
theorem Vx_scenes {x1 : Int32} {g : Sg} {Q : Int32 → Sg → Prop} (h : (((0 ≤ x1 ∧ x1 ≤ g 11 6) → Cx_burningBehind x1 g (fun r2 g1 => Hx_scenes_22 r2 0 0 g1 Q)) ∧ (¬ (0 ≤ x1 ∧ x1 ≤ g 11 6) → Q (-2) g))) : Cx_scenes x1 g Q := by
  refine Cl.of 3 pl_X8 rfl ?_
  refine e_aload_n (dx D_x_scenes 0 rfl) rfl ?_
  refine e_iload_n (dx D_x_scenes 1 rfl) rfl ?_
  refine e_callVi (Q1 := fun r g' => bP (0 ≤ x1 ∧ x1 ≤ g 11 6) = r ∧ g = g') (rest := []) [.int x1] (dx D_x_scenes 2 rfl) ln_x_scenes_175 rfl rfl rfl (Nat.le_of_ble_eq_true rfl) (Ix_isBehind  ⟨rfl, rfl⟩) (fun r g' hh => ?_)
  obtain ⟨rfl, rfl⟩ := hh
  refine e_if_ne (tgt := 11) (dx D_x_scenes 3 rfl) (by decide) (fun c => ?_) (fun c => ?_)
  · replace h := h.1 (bP_n c)
    refine e_aload_n (dx D_x_scenes 6 rfl) rfl ?_
    refine e_iload_n (dx D_x_scenes 7 rfl) rfl ?_
    refine e_callVi (rest := []) [.int x1] (dx D_x_scenes 8 rfl) ln_x_scenes_275 rfl rfl rfl (Nat.le_of_ble_eq_true rfl) h (fun r2 g1 h => ?_)
    refine q_istore_n (L' := [some (.ref 0), some (.int x1), some (.int r2), none, none]) (dx D_x_scenes 9 rfl) (by decide) rfl ?_
    refine q_iconst (v := 0) (dx D_x_scenes 10 rfl) (by decide) ?_
    refine q_istore_n (L' := [some (.ref 0), some (.int x1), some (.int r2), some (.int 0), none]) (dx D_x_scenes 11 rfl) (by decide) rfl ?_
    refine q_iconst (v := 0) (dx D_x_scenes 12 rfl) (by decide) ?_
    refine q_istore (L' := [some (.ref 0), some (.int x1), some (.int r2), some (.int 0), some (.int 0)]) (dx D_x_scenes 13 rfl) (by decide) rfl ?_
    exact Wp.mask [true, false, true, true, true] h
  · replace h := h.2 (bP_z c)
    refine q_bipush (v := (-2)) (dx D_x_scenes 4 rfl) (by decide) ?_
    exact e_iret (dx D_x_scenes 5 rfl) rfl rfl ⟨_, rfl, h⟩
set_option maxRecDepth 20000 in
theorem Vx_scenes_22 {x2 : Int32} {x3 : Int32} {x4 : Int32} {g : Sg} {Q : Int32 → Sg → Prop} (h : (((g 26 4) ≤ x4 → Q x3 g) ∧ (¬ (g 26 4) ≤ x4 → vp_in x4 6 ∧ (((g 29 (x4).toNatClampNeg) = x2 → Hx_scenes_22 x2 (x3 ||| (sb x4)) (x4 + 1) g Q) ∧ (¬ (g 29 (x4).toNatClampNeg) = x2 → Hx_scenes_22 x2 x3 (x4 + 1) g Q))))) : Hx_scenes_22 x2 x3 x4 g Q := by
  refine e_iload (dx D_x_scenes 14 rfl) rfl ?_
  refine e_aload_n (dx D_x_scenes 15 rfl) rfl ?_
  refine e_getR (dx D_x_scenes 16 rfl) fl_RX8_60 rfl rfl ?_
  refine e_getI (dx D_x_scenes 17 rfl) fl_RX8_278 rfl rfl ?_
  refine e_icmp_ge (tgt := 62) (dx D_x_scenes 18 rfl) (by decide) (fun c => ?_) (fun c => ?_)
  · replace h := h.1 c
    refine e_iload_n (dx D_x_scenes 33 rfl) rfl ?_
    exact e_iret (dx D_x_scenes 34 rfl) rfl rfl ⟨_, rfl, h⟩
  · replace h := h.2 c
    refine e_aload_n (dx D_x_scenes 19 rfl) rfl ?_
    refine e_getR (dx D_x_scenes 20 rfl) fl_RX8_60 rfl rfl ?_
    refine e_getR (dx D_x_scenes 21 rfl) fl_RX8_281 rfl rfl ?_
    refine e_iload (dx D_x_scenes 22 rfl) rfl ?_
    obtain ⟨hb1, h⟩ := h
    refine e_iald (dx D_x_scenes 23 rfl) rfl hb1 ?_
    refine e_iload_n (dx D_x_scenes 24 rfl) rfl ?_
    refine e_icmp_ne (tgt := 56) (dx D_x_scenes 25 rfl) (by decide) (fun c => ?_) (fun c => ?_)
    · replace h := h.2 c
      refine q_iinc (d := 1) (L' := [some (.ref 0), none, some (.int x2), some (.int x3), some (.int (x4 + 1))]) (dx D_x_scenes 31 rfl) rfl (by decide) (by decide) rfl ?_
      refine e_goto (tgt := 22) (dx D_x_scenes 32 rfl) (by decide) ?_
      exact h
    · replace h := h.1 c
      refine e_iload_n (dx D_x_scenes 26 rfl) rfl ?_
      refine e_iload (dx D_x_scenes 27 rfl) rfl ?_
      refine e_callSi (Q1 := fun r g' => (sb x4) = r ∧ g = g') (rest := [.int x3]) [.int x4] (dx D_x_scenes 28 rfl) ln_x_scenes_254 rfl rfl (Nat.le_of_ble_eq_true rfl) (Ix_bit  ⟨rfl, rfl⟩) (fun r g' hh => ?_)
      obtain ⟨rfl, rfl⟩ := hh
      refine e_ior (dx D_x_scenes 29 rfl) ?_
      refine q_istore_n (L' := [some (.ref 0), none, some (.int x2), some (.int (x3 ||| (sb x4))), some (.int x4)]) (dx D_x_scenes 30 rfl) (by decide) rfl ?_
      refine q_iinc (d := 1) (L' := [some (.ref 0), none, some (.int x2), some (.int (x3 ||| (sb x4))), some (.int (x4 + 1))]) (dx D_x_scenes 31 rfl) rfl (by decide) (by decide) rfl ?_
      refine e_goto (tgt := 22) (dx D_x_scenes 32 rfl) (by decide) ?_
      exact h
abbrev Cx_cue (x1 : Int32) (g : Sg) (Q : Int32 → Sg → Prop) : Prop := Ci Mx_cue [.ref 0, .int x1] g Q
abbrev Hx_cue_22 (x1 : Int32) (x2 : Int32) (g : Sg) (Q : Int32 → Sg → Prop) : Prop := Hi Mx_cue 22 [some (.ref 0), some (.int x1), some (.int x2)] [] g Q
set_option maxRecDepth 20000 in
theorem Vx_cue {x1 : Int32} {g : Sg} {Q : Int32 → Sg → Prop} (h : (((0 ≤ x1 ∧ x1 ≤ ((g 26 4) - 1)) → Hx_cue_22 x1 0 g Q) ∧ (¬ (0 ≤ x1 ∧ x1 ≤ ((g 26 4) - 1)) → Q (-2) g))) : Cx_cue x1 g Q := by
  refine Cl.of 1 pl_X8 rfl ?_
  refine e_iload_n (dx D_x_cue 0 rfl) rfl ?_
  refine q_iconst (v := 0) (dx D_x_cue 1 rfl) (by decide) ?_
  refine e_aload_n (dx D_x_cue 2 rfl) rfl ?_
  refine e_getR (dx D_x_cue 3 rfl) fl_RX8_60 rfl rfl ?_
  refine e_getI (dx D_x_cue 4 rfl) fl_RX8_278 rfl rfl ?_
  refine q_iconst (v := 1) (dx D_x_cue 5 rfl) (by decide) ?_
  refine e_isub (dx D_x_cue 6 rfl) ?_
  refine e_callSi (Q1 := fun r g' => bP (0 ≤ x1 ∧ x1 ≤ ((g 26 4) - 1)) = r ∧ g = g') (rest := []) [.int x1, .int 0, .int ((g 26 4) - 1)] (dx D_x_cue 7 rfl) ln_x_cue_75 rfl rfl (Nat.le_of_ble_eq_true rfl) (Ix_within  ⟨rfl, rfl⟩) (fun r g' hh => ?_)
  obtain ⟨rfl, rfl⟩ := hh
  refine e_if_ne (tgt := 20) (dx D_x_cue 8 rfl) (by decide) (fun c => ?_) (fun c => ?_)
  · replace h := h.1 (bP_n c)
    refine q_iconst (v := 0) (dx D_x_cue 11 rfl) (by decide) ?_
    refine q_istore_n (L' := [some (.ref 0), some (.int x1), some (.int 0)]) (dx D_x_cue 12 rfl) (by decide) rfl ?_
    exact h
  · replace h := h.2 (bP_z c)
    refine q_bipush (v := (-2)) (dx D_x_cue 9 rfl) (by decide) ?_
    exact e_iret (dx D_x_cue 10 rfl) rfl rfl ⟨_, rfl, h⟩
set_option maxRecDepth 20000 in
theorem Vx_cue_22 {x1 : Int32} {x2 : Int32} {g : Sg} {Q : Int32 → Sg → Prop} (h : (((g 11 6) < x2 → Q (-1) g) ∧ (¬ (g 11 6) < x2 → Cx_burningBehind x2 g (fun r2 g1 => vp_in x1 6 ∧ ((r2 = (g1 29 (x1).toNatClampNeg) → Q x2 g1) ∧ (¬ r2 = (g1 29 (x1).toNatClampNeg) → Hx_cue_22 x1 (x2 + 1) g1 Q)))))) : Hx_cue_22 x1 x2 g Q := by
  refine e_iload_n (dx D_x_cue 13 rfl) rfl ?_
  refine e_aload_n (dx D_x_cue 14 rfl) rfl ?_
  refine e_getR (dx D_x_cue 15 rfl) fl_RX8_30 rfl rfl ?_
  refine e_getI (dx D_x_cue 16 rfl) fl_RX8_153 rfl rfl ?_
  refine e_icmp_gt (tgt := 58) (dx D_x_cue 17 rfl) (by decide) (fun c => ?_) (fun c => ?_)
  · replace h := h.1 c
    refine q_iconst (v := (-1)) (dx D_x_cue 31 rfl) (by decide) ?_
    exact e_iret (dx D_x_cue 32 rfl) rfl rfl ⟨_, rfl, h⟩
  · replace h := h.2 c
    refine e_aload_n (dx D_x_cue 18 rfl) rfl ?_
    refine e_iload_n (dx D_x_cue 19 rfl) rfl ?_
    refine e_callVi (rest := []) [.int x2] (dx D_x_cue 20 rfl) ln_x_cue_275 rfl rfl rfl (Nat.le_of_ble_eq_true rfl) h (fun r2 g1 h => ?_)
    refine e_aload_n (dx D_x_cue 21 rfl) rfl ?_
    refine e_getR (dx D_x_cue 22 rfl) fl_RX8_60 rfl rfl ?_
    refine e_getR (dx D_x_cue 23 rfl) fl_RX8_281 rfl rfl ?_
    refine e_iload_n (dx D_x_cue 24 rfl) rfl ?_
    obtain ⟨hb3, h⟩ := h
    refine e_iald (dx D_x_cue 25 rfl) rfl hb3 ?_
    refine e_icmp_ne (tgt := 52) (dx D_x_cue 26 rfl) (by decide) (fun c => ?_) (fun c => ?_)
    · replace h := h.2 c
      refine q_iinc (d := 1) (L' := [some (.ref 0), some (.int x1), some (.int (x2 + 1))]) (dx D_x_cue 29 rfl) rfl (by decide) (by decide) rfl ?_
      refine e_goto (tgt := 22) (dx D_x_cue 30 rfl) (by decide) ?_
      exact h
    · replace h := h.1 c
      refine e_iload_n (dx D_x_cue 27 rfl) rfl ?_
      exact e_iret (dx D_x_cue 28 rfl) rfl rfl ⟨_, rfl, h⟩
abbrev Cx_forget (x1 : Int32) (g : Sg) (Q : Int32 → Sg → Prop) : Prop := Ci Mx_forget [.ref 0, .int x1] g Q
set_option maxRecDepth 20000 in
theorem Vx_forget {x1 : Int32} {g : Sg} {Q : Int32 → Sg → Prop} (h : ((x1 = 0 → Cj_dropMarks g (fun r4 g3 => Q r4 g3)) ∧ (¬ x1 = 0 → ((x1 = 1 → Cj_dropScenes g (fun r2 g1 => Q r2 g1)) ∧ (¬ x1 = 1 → Q (-2) g))))) : Cx_forget x1 g Q := by
  refine Cl.of 0 pl_X8 rfl ?_
  refine e_iload_n (dx D_x_forget 0 rfl) rfl ?_
  refine e_if_ne (tgt := 12) (dx D_x_forget 1 rfl) (by decide) (fun c => ?_) (fun c => ?_)
  · replace h := h.2 c
    refine e_iload_n (dx D_x_forget 6 rfl) rfl ?_
    refine q_iconst (v := 1) (dx D_x_forget 7 rfl) (by decide) ?_
    refine e_icmp_ne (tgt := 27) (dx D_x_forget 8 rfl) (by decide) (fun c => ?_) (fun c => ?_)
    · replace h := h.2 c
      refine q_bipush (v := (-2)) (dx D_x_forget 13 rfl) (by decide) ?_
      exact e_iret (dx D_x_forget 14 rfl) rfl rfl ⟨_, rfl, h⟩
    · replace h := h.1 c
      refine e_aload_n (dx D_x_forget 9 rfl) rfl ?_
      refine e_getR (dx D_x_forget 10 rfl) fl_RX8_60 rfl rfl ?_
      refine e_callVi (rest := []) [] (dx D_x_forget 11 rfl) ln_x_forget_287 rfl rfl rfl (Nat.le_of_ble_eq_true rfl) h (fun r2 g1 h => ?_)
      refine e_goto (tgt := 29) (dx D_x_forget 12 rfl) (by decide) ?_
      exact e_iret (dx D_x_forget 14 rfl) rfl rfl ⟨_, rfl, h⟩
  · replace h := h.1 c
    refine e_aload_n (dx D_x_forget 2 rfl) rfl ?_
    refine e_getR (dx D_x_forget 3 rfl) fl_RX8_60 rfl rfl ?_
    refine e_callVi (rest := []) [] (dx D_x_forget 4 rfl) ln_x_forget_284 rfl rfl rfl (Nat.le_of_ble_eq_true rfl) h (fun r4 g3 h => ?_)
    exact e_iret (dx D_x_forget 5 rfl) rfl rfl ⟨_, rfl, h⟩
abbrev Cx_sheet (x1 : Int32) (x2 : Int32) (x3 : Int32) (g : Sg) (Q : Int32 → Sg → Prop) : Prop := Ci Mx_sheet [.ref 0, .int x1, .int x2, .int x3] g Q
set_option maxRecDepth 20000 in
theorem Vx_sheet {x1 : Int32} {x2 : Int32} {x3 : Int32} {g : Sg} {Q : Int32 → Sg → Prop} (h : (((isS x1) → (((isF x2) → ((x3 ≤ 60 → ((0 ≤ x3 → Cs_renew x1 x2 x3 g (fun g1 => Q x3 g1)) ∧ (¬ 0 ≤ x3 → Q ((-10) - 5) (sgU g 30 3 5)))) ∧ (¬ x3 ≤ 60 → Q (-2) g))) ∧ (¬ (isF x2) → Q (-2) g))) ∧ (¬ (isS x1) → Q (-2) g))) : Cx_sheet x1 x2 x3 g Q := by
  refine Cl.of 0 pl_X8 rfl ?_
  refine e_aload_n (dx D_x_sheet 0 rfl) rfl ?_
  refine e_getR (dx D_x_sheet 1 rfl) fl_RX8_67 rfl rfl ?_
  refine e_iload_n (dx D_x_sheet 2 rfl) rfl ?_
  refine e_callVi (Q1 := fun r g' => bP (isS x1) = r ∧ g = g') (rest := []) [.int x1] (dx D_x_sheet 3 rfl) ln_x_sheet_157 rfl rfl rfl (Nat.le_of_ble_eq_true rfl) (Is_hasSheet  ⟨rfl, rfl⟩) (fun r g' hh => ?_)
  obtain ⟨rfl, rfl⟩ := hh
  refine e_if_eq (tgt := 28) (dx D_x_sheet 4 rfl) (by decide) (fun c => ?_) (fun c => ?_)
  · replace h := h.2 (bP_z c)
    refine q_bipush (v := (-2)) (dx D_x_sheet 13 rfl) (by decide) ?_
    exact e_iret (dx D_x_sheet 14 rfl) rfl rfl ⟨_, rfl, h⟩
  · replace h := h.1 (bP_n c)
    refine e_aload_n (dx D_x_sheet 5 rfl) rfl ?_
    refine e_getR (dx D_x_sheet 6 rfl) fl_RX8_67 rfl rfl ?_
    refine e_iload_n (dx D_x_sheet 7 rfl) rfl ?_
    refine e_callVi (Q1 := fun r g' => bP (isF x2) = r ∧ g = g') (rest := []) [.int x2] (dx D_x_sheet 8 rfl) ln_x_sheet_290 rfl rfl rfl (Nat.le_of_ble_eq_true rfl) (Is_isForm  ⟨rfl, rfl⟩) (fun r g' hh => ?_)
    obtain ⟨rfl, rfl⟩ := hh
    refine e_if_eq (tgt := 28) (dx D_x_sheet 9 rfl) (by decide) (fun c => ?_) (fun c => ?_)
    · replace h := h.2 (bP_z c)
      refine q_bipush (v := (-2)) (dx D_x_sheet 13 rfl) (by decide) ?_
      exact e_iret (dx D_x_sheet 14 rfl) rfl rfl ⟨_, rfl, h⟩
    · replace h := h.1 (bP_n c)
      refine e_iload_n (dx D_x_sheet 10 rfl) rfl ?_
      refine q_bipush (v := 60) (dx D_x_sheet 11 rfl) (by decide) ?_
      refine e_icmp_le (tgt := 31) (dx D_x_sheet 12 rfl) (by decide) (fun c => ?_) (fun c => ?_)
      · replace h := h.1 c
        refine e_iload_n (dx D_x_sheet 15 rfl) rfl ?_
        refine e_if_ge (tgt := 44) (dx D_x_sheet 16 rfl) (by decide) (fun c => ?_) (fun c => ?_)
        · replace h := h.1 c
          refine e_aload_n (dx D_x_sheet 22 rfl) rfl ?_
          refine e_getR (dx D_x_sheet 23 rfl) fl_RX8_67 rfl rfl ?_
          refine e_iload_n (dx D_x_sheet 24 rfl) rfl ?_
          refine e_iload_n (dx D_x_sheet 25 rfl) rfl ?_
          refine e_iload_n (dx D_x_sheet 26 rfl) rfl ?_
          refine e_callVv (rest := []) [.int x1, .int x2, .int x3] (dx D_x_sheet 27 rfl) ln_x_sheet_293 rfl rfl rfl (Nat.le_of_ble_eq_true rfl) h (fun g1 h => ?_)
          refine e_iload_n (dx D_x_sheet 28 rfl) rfl ?_
          exact e_iret (dx D_x_sheet 29 rfl) rfl rfl ⟨_, rfl, h⟩
        · replace h := h.2 c
          refine e_aload_n (dx D_x_sheet 17 rfl) rfl ?_
          refine e_getR (dx D_x_sheet 18 rfl) fl_RX8_67 rfl rfl ?_
          refine q_iconst (v := 5) (dx D_x_sheet 19 rfl) (by decide) ?_
          refine e_callVi (Q1 := fun r g' => ((-10) - 5) = r ∧ (sgU g 30 3 5) = g') (rest := []) [.int 5] (dx D_x_sheet 20 rfl) ln_x_sheet_163 rfl rfl rfl (Nat.le_of_ble_eq_true rfl) (Is_found  ⟨rfl, rfl⟩) (fun r g' hh => ?_)
          obtain ⟨rfl, rfl⟩ := hh
          exact e_iret (dx D_x_sheet 21 rfl) rfl rfl ⟨_, rfl, h⟩
      · replace h := h.2 c
        refine q_bipush (v := (-2)) (dx D_x_sheet 13 rfl) (by decide) ?_
        exact e_iret (dx D_x_sheet 14 rfl) rfl rfl ⟨_, rfl, h⟩
abbrev Cx_lose (x1 : Int32) (g : Sg) (Q : Int32 → Sg → Prop) : Prop := Ci Mx_lose [.ref 0, .int x1] g Q
set_option maxRecDepth 20000 in
theorem Vx_lose {x1 : Int32} {g : Sg} {Q : Int32 → Sg → Prop} (h : (((isS x1) → vp_in x1 4 ∧ (((g 32 (x1).toNatClampNeg = (-1)) → Q ((-10) - 1) (sgU g 30 3 1)) ∧ (¬ (g 32 (x1).toNatClampNeg = (-1)) → vp_in x1 4 ∧ Cs_drop x1 g (fun g3 => Q (g 33 (x1).toNatClampNeg) g3)))) ∧ (¬ (isS x1) → Q (-2) g))) : Cx_lose x1 g Q := by
  refine Cl.of 1 pl_X8 rfl ?_
  refine e_aload_n (dx D_x_lose 0 rfl) rfl ?_
  refine e_getR (dx D_x_lose 1 rfl) fl_RX8_67 rfl rfl ?_
  refine e_iload_n (dx D_x_lose 2 rfl) rfl ?_
  refine e_callVi (Q1 := fun r g' => bP (isS x1) = r ∧ g = g') (rest := []) [.int x1] (dx D_x_lose 3 rfl) ln_x_lose_157 rfl rfl rfl (Nat.le_of_ble_eq_true rfl) (Is_hasSheet  ⟨rfl, rfl⟩) (fun r g' hh => ?_)
  obtain ⟨rfl, rfl⟩ := hh
  refine e_if_ne (tgt := 14) (dx D_x_lose 4 rfl) (by decide) (fun c => ?_) (fun c => ?_)
  · replace h := h.1 (bP_n c)
    refine e_aload_n (dx D_x_lose 7 rfl) rfl ?_
    refine e_getR (dx D_x_lose 8 rfl) fl_RX8_67 rfl rfl ?_
    refine e_iload_n (dx D_x_lose 9 rfl) rfl ?_
    obtain ⟨hb1, h⟩ := h
    refine e_callVi (Q1 := fun r g' => bP (g 32 (x1).toNatClampNeg = (-1)) = r ∧ g = g') (rest := []) [.int x1] (dx D_x_lose 10 rfl) ln_x_lose_160 rfl rfl rfl (Nat.le_of_ble_eq_true rfl) (Is_isLost hb1 ⟨rfl, rfl⟩) (fun r g' hh => ?_)
    obtain ⟨rfl, rfl⟩ := hh
    refine e_if_eq (tgt := 34) (dx D_x_lose 11 rfl) (by decide) (fun c => ?_) (fun c => ?_)
    · replace h := h.2 (bP_z c)
      refine e_aload_n (dx D_x_lose 17 rfl) rfl ?_
      refine e_getR (dx D_x_lose 18 rfl) fl_RX8_67 rfl rfl ?_
      refine e_getR (dx D_x_lose 19 rfl) fl_RX8_166 rfl rfl ?_
      refine e_iload_n (dx D_x_lose 20 rfl) rfl ?_
      obtain ⟨hb2, h⟩ := h
      refine e_iald (dx D_x_lose 21 rfl) rfl hb2 ?_
      refine q_istore_n (L' := [some (.ref 0), some (.int x1), some (.int (g 33 (x1).toNatClampNeg))]) (dx D_x_lose 22 rfl) (by decide) rfl ?_
      refine e_aload_n (dx D_x_lose 23 rfl) rfl ?_
      refine e_getR (dx D_x_lose 24 rfl) fl_RX8_67 rfl rfl ?_
      refine e_iload_n (dx D_x_lose 25 rfl) rfl ?_
      refine e_callVv (rest := []) [.int x1] (dx D_x_lose 26 rfl) ln_x_lose_297 rfl rfl rfl (Nat.le_of_ble_eq_true rfl) h (fun g3 h => ?_)
      refine e_iload_n (dx D_x_lose 27 rfl) rfl ?_
      exact e_iret (dx D_x_lose 28 rfl) rfl rfl ⟨_, rfl, h⟩
    · replace h := h.1 (bP_n c)
      refine e_aload_n (dx D_x_lose 12 rfl) rfl ?_
      refine e_getR (dx D_x_lose 13 rfl) fl_RX8_67 rfl rfl ?_
      refine q_iconst (v := 1) (dx D_x_lose 14 rfl) (by decide) ?_
      refine e_callVi (Q1 := fun r g' => ((-10) - 1) = r ∧ (sgU g 30 3 1) = g') (rest := []) [.int 1] (dx D_x_lose 15 rfl) ln_x_lose_163 rfl rfl rfl (Nat.le_of_ble_eq_true rfl) (Is_found  ⟨rfl, rfl⟩) (fun r g' hh => ?_)
      obtain ⟨rfl, rfl⟩ := hh
      exact e_iret (dx D_x_lose 16 rfl) rfl rfl ⟨_, rfl, h⟩
  · replace h := h.2 (bP_z c)
    refine q_bipush (v := (-2)) (dx D_x_lose 5 rfl) (by decide) ?_
    exact e_iret (dx D_x_lose 6 rfl) rfl rfl ⟨_, rfl, h⟩
abbrev Cx_lay (x1 : Int32) (x2 : Int32) (x3 : Int32) (x4 : Int32) (g : Sg) (Q : Int32 → Sg → Prop) : Prop := Ci Mx_lay [.ref 0, .int x1, .int x2, .int x3, .int x4] g Q
set_option maxRecDepth 20000 in
theorem Vx_lay {x1 : Int32} {x2 : Int32} {x3 : Int32} {x4 : Int32} {g : Sg} {Q : Int32 → Sg → Prop} (h : (((isS x1) → (((isF x2) → Cs_findingAt x1 x2 x3 g (fun r2 g1 => ((r2 = 0 → Cs_store x1 x3 x4 g1 (fun g3 => Q 1 g3)) ∧ (¬ r2 = 0 → Q ((-10) - r2) (sgU g1 30 3 r2))))) ∧ (¬ (isF x2) → Q (-2) g))) ∧ (¬ (isS x1) → Q (-2) g))) : Cx_lay x1 x2 x3 x4 g Q := by
  refine Cl.of 1 pl_X8 rfl ?_
  refine e_aload_n (dx D_x_lay 0 rfl) rfl ?_
  refine e_getR (dx D_x_lay 1 rfl) fl_RX8_67 rfl rfl ?_
  refine e_iload_n (dx D_x_lay 2 rfl) rfl ?_
  refine e_callVi (Q1 := fun r g' => bP (isS x1) = r ∧ g = g') (rest := []) [.int x1] (dx D_x_lay 3 rfl) ln_x_lay_157 rfl rfl rfl (Nat.le_of_ble_eq_true rfl) (Is_hasSheet  ⟨rfl, rfl⟩) (fun r g' hh => ?_)
  obtain ⟨rfl, rfl⟩ := hh
  refine e_if_eq (tgt := 22) (dx D_x_lay 4 rfl) (by decide) (fun c => ?_) (fun c => ?_)
  · replace h := h.2 (bP_z c)
    refine q_bipush (v := (-2)) (dx D_x_lay 10 rfl) (by decide) ?_
    exact e_iret (dx D_x_lay 11 rfl) rfl rfl ⟨_, rfl, h⟩
  · replace h := h.1 (bP_n c)
    refine e_aload_n (dx D_x_lay 5 rfl) rfl ?_
    refine e_getR (dx D_x_lay 6 rfl) fl_RX8_67 rfl rfl ?_
    refine e_iload_n (dx D_x_lay 7 rfl) rfl ?_
    refine e_callVi (Q1 := fun r g' => bP (isF x2) = r ∧ g = g') (rest := []) [.int x2] (dx D_x_lay 8 rfl) ln_x_lay_290 rfl rfl rfl (Nat.le_of_ble_eq_true rfl) (Is_isForm  ⟨rfl, rfl⟩) (fun r g' hh => ?_)
    obtain ⟨rfl, rfl⟩ := hh
    refine e_if_ne (tgt := 25) (dx D_x_lay 9 rfl) (by decide) (fun c => ?_) (fun c => ?_)
    · replace h := h.1 (bP_n c)
      refine e_aload_n (dx D_x_lay 12 rfl) rfl ?_
      refine e_getR (dx D_x_lay 13 rfl) fl_RX8_67 rfl rfl ?_
      refine e_iload_n (dx D_x_lay 14 rfl) rfl ?_
      refine e_iload_n (dx D_x_lay 15 rfl) rfl ?_
      refine e_iload_n (dx D_x_lay 16 rfl) rfl ?_
      refine e_callVi (rest := []) [.int x1, .int x2, .int x3] (dx D_x_lay 17 rfl) ln_x_lay_300 rfl rfl rfl (Nat.le_of_ble_eq_true rfl) h (fun r2 g1 h => ?_)
      refine q_istore (L' := [some (.ref 0), some (.int x1), some (.int x2), some (.int x3), some (.int x4), some (.int r2)]) (dx D_x_lay 18 rfl) (by decide) rfl ?_
      refine e_iload (dx D_x_lay 19 rfl) rfl ?_
      refine e_if_eq (tgt := 52) (dx D_x_lay 20 rfl) (by decide) (fun c => ?_) (fun c => ?_)
      · replace h := h.1 c
        refine e_aload_n (dx D_x_lay 26 rfl) rfl ?_
        refine e_getR (dx D_x_lay 27 rfl) fl_RX8_67 rfl rfl ?_
        refine e_iload_n (dx D_x_lay 28 rfl) rfl ?_
        refine e_iload_n (dx D_x_lay 29 rfl) rfl ?_
        refine e_iload (dx D_x_lay 30 rfl) rfl ?_
        refine e_callVv (rest := []) [.int x1, .int x3, .int x4] (dx D_x_lay 31 rfl) ln_x_lay_303 rfl rfl rfl (Nat.le_of_ble_eq_true rfl) h (fun g3 h => ?_)
        refine q_iconst (v := 1) (dx D_x_lay 32 rfl) (by decide) ?_
        exact e_iret (dx D_x_lay 33 rfl) rfl rfl ⟨_, rfl, h⟩
      · replace h := h.2 c
        refine e_aload_n (dx D_x_lay 21 rfl) rfl ?_
        refine e_getR (dx D_x_lay 22 rfl) fl_RX8_67 rfl rfl ?_
        refine e_iload (dx D_x_lay 23 rfl) rfl ?_
        refine e_callVi (Q1 := fun r g' => ((-10) - r2) = r ∧ (sgU g1 30 3 r2) = g') (rest := []) [.int r2] (dx D_x_lay 24 rfl) ln_x_lay_163 rfl rfl rfl (Nat.le_of_ble_eq_true rfl) (Is_found  ⟨rfl, rfl⟩) (fun r g' hh => ?_)
        obtain ⟨rfl, rfl⟩ := hh
        exact e_iret (dx D_x_lay 25 rfl) rfl rfl ⟨_, rfl, h⟩
    · replace h := h.2 (bP_z c)
      refine q_bipush (v := (-2)) (dx D_x_lay 10 rfl) (by decide) ?_
      exact e_iret (dx D_x_lay 11 rfl) rfl rfl ⟨_, rfl, h⟩
abbrev Cx_get (x1 : Int32) (x2 : Int32) (x3 : Int32) (g : Sg) (Q : Int32 → Sg → Prop) : Prop := Ci Mx_get [.ref 0, .int x1, .int x2, .int x3] g Q
set_option maxRecDepth 20000 in
theorem Vx_get {x1 : Int32} {x2 : Int32} {x3 : Int32} {g : Sg} {Q : Int32 → Sg → Prop} (h : (((isS x1) → (((isF x2) → Cs_findingAt x1 x2 x3 g (fun r2 g1 => ((r2 = 0 → vp_in (x1 * 60 + x3) 240 ∧ Q (g1 31 (x1 * 60 + x3).toNatClampNeg) g1) ∧ (¬ r2 = 0 → Q (-2147483648) (sgU g1 30 3 r2))))) ∧ (¬ (isF x2) → Q (-2147483648) g))) ∧ (¬ (isS x1) → Q (-2147483648) g))) : Cx_get x1 x2 x3 g Q := by
  refine Cl.of 1 pl_X8 rfl ?_
  refine e_aload_n (dx D_x_get 0 rfl) rfl ?_
  refine e_getR (dx D_x_get 1 rfl) fl_RX8_67 rfl rfl ?_
  refine e_iload_n (dx D_x_get 2 rfl) rfl ?_
  refine e_callVi (Q1 := fun r g' => bP (isS x1) = r ∧ g = g') (rest := []) [.int x1] (dx D_x_get 3 rfl) ln_x_get_157 rfl rfl rfl (Nat.le_of_ble_eq_true rfl) (Is_hasSheet  ⟨rfl, rfl⟩) (fun r g' hh => ?_)
  obtain ⟨rfl, rfl⟩ := hh
  refine e_if_eq (tgt := 22) (dx D_x_get 4 rfl) (by decide) (fun c => ?_) (fun c => ?_)
  · replace h := h.2 (bP_z c)
    refine e_ldcw (v := (-2147483648)) (dx D_x_get 10 rfl) k870 ?_
    exact e_iret (dx D_x_get 11 rfl) rfl rfl ⟨_, rfl, h⟩
  · replace h := h.1 (bP_n c)
    refine e_aload_n (dx D_x_get 5 rfl) rfl ?_
    refine e_getR (dx D_x_get 6 rfl) fl_RX8_67 rfl rfl ?_
    refine e_iload_n (dx D_x_get 7 rfl) rfl ?_
    refine e_callVi (Q1 := fun r g' => bP (isF x2) = r ∧ g = g') (rest := []) [.int x2] (dx D_x_get 8 rfl) ln_x_get_290 rfl rfl rfl (Nat.le_of_ble_eq_true rfl) (Is_isForm  ⟨rfl, rfl⟩) (fun r g' hh => ?_)
    obtain ⟨rfl, rfl⟩ := hh
    refine e_if_ne (tgt := 26) (dx D_x_get 9 rfl) (by decide) (fun c => ?_) (fun c => ?_)
    · replace h := h.1 (bP_n c)
      refine e_aload_n (dx D_x_get 12 rfl) rfl ?_
      refine e_getR (dx D_x_get 13 rfl) fl_RX8_67 rfl rfl ?_
      refine e_iload_n (dx D_x_get 14 rfl) rfl ?_
      refine e_iload_n (dx D_x_get 15 rfl) rfl ?_
      refine e_iload_n (dx D_x_get 16 rfl) rfl ?_
      refine e_callVi (rest := []) [.int x1, .int x2, .int x3] (dx D_x_get 17 rfl) ln_x_get_300 rfl rfl rfl (Nat.le_of_ble_eq_true rfl) h (fun r2 g1 h => ?_)
      refine q_istore (L' := [some (.ref 0), some (.int x1), some (.int x2), some (.int x3), some (.int r2)]) (dx D_x_get 18 rfl) (by decide) rfl ?_
      refine e_iload (dx D_x_get 19 rfl) rfl ?_
      refine e_if_eq (tgt := 57) (dx D_x_get 20 rfl) (by decide) (fun c => ?_) (fun c => ?_)
      · replace h := h.1 c
        refine e_aload_n (dx D_x_get 28 rfl) rfl ?_
        refine e_getR (dx D_x_get 29 rfl) fl_RX8_67 rfl rfl ?_
        refine e_iload_n (dx D_x_get 30 rfl) rfl ?_
        refine e_iload_n (dx D_x_get 31 rfl) rfl ?_
        obtain ⟨hb3, h⟩ := h
        refine e_callVi (Q1 := fun r g' => (g1 31 (x1 * 60 + x3).toNatClampNeg) = r ∧ g1 = g') (rest := []) [.int x1, .int x3] (dx D_x_get 32 rfl) ln_x_get_169 rfl rfl rfl (Nat.le_of_ble_eq_true rfl) (Is_item hb3 ⟨rfl, rfl⟩) (fun r g' hh => ?_)
        obtain ⟨rfl, rfl⟩ := hh
        exact e_iret (dx D_x_get 33 rfl) rfl rfl ⟨_, rfl, h⟩
      · replace h := h.2 c
        refine e_aload_n (dx D_x_get 21 rfl) rfl ?_
        refine e_getR (dx D_x_get 22 rfl) fl_RX8_67 rfl rfl ?_
        refine e_iload (dx D_x_get 23 rfl) rfl ?_
        refine e_callVi (Q1 := fun r g' => ((-10) - r2) = r ∧ (sgU g1 30 3 r2) = g') (rest := []) [.int r2] (dx D_x_get 24 rfl) ln_x_get_163 rfl rfl rfl (Nat.le_of_ble_eq_true rfl) (Is_found  ⟨rfl, rfl⟩) (fun r g' hh => ?_)
        obtain ⟨rfl, rfl⟩ := hh
        refine e_pop (dx D_x_get 25 rfl) rfl ?_
        refine e_ldcw (v := (-2147483648)) (dx D_x_get 26 rfl) k870 ?_
        exact e_iret (dx D_x_get 27 rfl) rfl rfl ⟨_, rfl, h⟩
    · replace h := h.2 (bP_z c)
      refine e_ldcw (v := (-2147483648)) (dx D_x_get 10 rfl) k870 ?_
      exact e_iret (dx D_x_get 11 rfl) rfl rfl ⟨_, rfl, h⟩
abbrev Cx_copy (x1 : Int32) (x2 : Int32) (x3 : Int32) (x4 : Int32) (x5 : Int32) (g : Sg) (Q : Int32 → Sg → Prop) : Prop := Ci Mx_copy [.ref 0, .int x1, .int x2, .int x3, .int x4, .int x5] g Q
set_option maxRecDepth 20000 in
theorem Vx_copy {x1 : Int32} {x2 : Int32} {x3 : Int32} {x4 : Int32} {x5 : Int32} {g : Sg} {Q : Int32 → Sg → Prop} (h : (((isS x1) → (((isS x3) → vp_in x1 4 ∧ (((g 32 (x1).toNatClampNeg = (-1)) → Q ((-10) - 1) (sgU g 30 3 1)) ∧ (¬ (g 32 (x1).toNatClampNeg = (-1)) → vp_in x3 4 ∧ (((g 32 (x3).toNatClampNeg = (-1)) → Q ((-10) - 1) (sgU g 30 3 1)) ∧ (¬ (g 32 (x3).toNatClampNeg = (-1)) → vp_in x1 4 ∧ vp_in x3 4 ∧ (((g 32 (x1).toNatClampNeg) = (g 32 (x3).toNatClampNeg) → Cs_hasSpan x1 x2 x5 g (fun r6 g5 => ((r6 = 0 → Q ((-10) - 2) (sgU g5 30 3 2)) ∧ (¬ r6 = 0 → Cs_hasSpan x3 x4 x5 g5 (fun r8 g7 => ((r8 = 0 → Q ((-10) - 2) (sgU g7 30 3 2)) ∧ (¬ r8 = 0 → Cs_move x1 x2 x3 x4 x5 g7 (fun g9 => Q 1 g9)))))))) ∧ (¬ (g 32 (x1).toNatClampNeg) = (g 32 (x3).toNatClampNeg) → Q ((-10) - 4) (sgU g 30 3 4)))))))) ∧ (¬ (isS x3) → Q (-2) g))) ∧ (¬ (isS x1) → Q (-2) g))) : Cx_copy x1 x2 x3 x4 x5 g Q := by
  refine Cl.of 0 pl_X8 rfl ?_
  refine e_aload_n (dx D_x_copy 0 rfl) rfl ?_
  refine e_getR (dx D_x_copy 1 rfl) fl_RX8_67 rfl rfl ?_
  refine e_iload_n (dx D_x_copy 2 rfl) rfl ?_
  refine e_callVi (Q1 := fun r g' => bP (isS x1) = r ∧ g = g') (rest := []) [.int x1] (dx D_x_copy 3 rfl) ln_x_copy_157 rfl rfl rfl (Nat.le_of_ble_eq_true rfl) (Is_hasSheet  ⟨rfl, rfl⟩) (fun r g' hh => ?_)
  obtain ⟨rfl, rfl⟩ := hh
  refine e_if_eq (tgt := 22) (dx D_x_copy 4 rfl) (by decide) (fun c => ?_) (fun c => ?_)
  · replace h := h.2 (bP_z c)
    refine q_bipush (v := (-2)) (dx D_x_copy 10 rfl) (by decide) ?_
    exact e_iret (dx D_x_copy 11 rfl) rfl rfl ⟨_, rfl, h⟩
  · replace h := h.1 (bP_n c)
    refine e_aload_n (dx D_x_copy 5 rfl) rfl ?_
    refine e_getR (dx D_x_copy 6 rfl) fl_RX8_67 rfl rfl ?_
    refine e_iload_n (dx D_x_copy 7 rfl) rfl ?_
    refine e_callVi (Q1 := fun r g' => bP (isS x3) = r ∧ g = g') (rest := []) [.int x3] (dx D_x_copy 8 rfl) ln_x_copy_157 rfl rfl rfl (Nat.le_of_ble_eq_true rfl) (Is_hasSheet  ⟨rfl, rfl⟩) (fun r g' hh => ?_)
    obtain ⟨rfl, rfl⟩ := hh
    refine e_if_ne (tgt := 25) (dx D_x_copy 9 rfl) (by decide) (fun c => ?_) (fun c => ?_)
    · replace h := h.1 (bP_n c)
      refine e_aload_n (dx D_x_copy 12 rfl) rfl ?_
      refine e_getR (dx D_x_copy 13 rfl) fl_RX8_67 rfl rfl ?_
      refine e_iload_n (dx D_x_copy 14 rfl) rfl ?_
      obtain ⟨hb1, h⟩ := h
      refine e_callVi (Q1 := fun r g' => bP (g 32 (x1).toNatClampNeg = (-1)) = r ∧ g = g') (rest := []) [.int x1] (dx D_x_copy 15 rfl) ln_x_copy_160 rfl rfl rfl (Nat.le_of_ble_eq_true rfl) (Is_isLost hb1 ⟨rfl, rfl⟩) (fun r g' hh => ?_)
      obtain ⟨rfl, rfl⟩ := hh
      refine e_if_ne (tgt := 47) (dx D_x_copy 16 rfl) (by decide) (fun c => ?_) (fun c => ?_)
      · replace h := h.1 (bP_n c)
        refine e_aload_n (dx D_x_copy 22 rfl) rfl ?_
        refine e_getR (dx D_x_copy 23 rfl) fl_RX8_67 rfl rfl ?_
        refine q_iconst (v := 1) (dx D_x_copy 24 rfl) (by decide) ?_
        refine e_callVi (Q1 := fun r g' => ((-10) - 1) = r ∧ (sgU g 30 3 1) = g') (rest := []) [.int 1] (dx D_x_copy 25 rfl) ln_x_copy_163 rfl rfl rfl (Nat.le_of_ble_eq_true rfl) (Is_found  ⟨rfl, rfl⟩) (fun r g' hh => ?_)
        obtain ⟨rfl, rfl⟩ := hh
        exact e_iret (dx D_x_copy 26 rfl) rfl rfl ⟨_, rfl, h⟩
      · replace h := h.2 (bP_z c)
        refine e_aload_n (dx D_x_copy 17 rfl) rfl ?_
        refine e_getR (dx D_x_copy 18 rfl) fl_RX8_67 rfl rfl ?_
        refine e_iload_n (dx D_x_copy 19 rfl) rfl ?_
        obtain ⟨hb2, h⟩ := h
        refine e_callVi (Q1 := fun r g' => bP (g 32 (x3).toNatClampNeg = (-1)) = r ∧ g = g') (rest := []) [.int x3] (dx D_x_copy 20 rfl) ln_x_copy_160 rfl rfl rfl (Nat.le_of_ble_eq_true rfl) (Is_isLost hb2 ⟨rfl, rfl⟩) (fun r g' hh => ?_)
        obtain ⟨rfl, rfl⟩ := hh
        refine e_if_eq (tgt := 56) (dx D_x_copy 21 rfl) (by decide) (fun c => ?_) (fun c => ?_)
        · replace h := h.2 (bP_z c)
          refine e_aload_n (dx D_x_copy 27 rfl) rfl ?_
          refine e_getR (dx D_x_copy 28 rfl) fl_RX8_67 rfl rfl ?_
          refine e_getR (dx D_x_copy 29 rfl) fl_RX8_307 rfl rfl ?_
          refine e_iload_n (dx D_x_copy 30 rfl) rfl ?_
          obtain ⟨hb3, h⟩ := h
          refine e_iald (dx D_x_copy 31 rfl) rfl hb3 ?_
          refine e_aload_n (dx D_x_copy 32 rfl) rfl ?_
          refine e_getR (dx D_x_copy 33 rfl) fl_RX8_67 rfl rfl ?_
          refine e_getR (dx D_x_copy 34 rfl) fl_RX8_307 rfl rfl ?_
          refine e_iload_n (dx D_x_copy 35 rfl) rfl ?_
          obtain ⟨hb4, h⟩ := h
          refine e_iald (dx D_x_copy 36 rfl) rfl hb4 ?_
          refine e_icmp_eq (tgt := 86) (dx D_x_copy 37 rfl) (by decide) (fun c => ?_) (fun c => ?_)
          · replace h := h.1 c
            refine e_aload_n (dx D_x_copy 43 rfl) rfl ?_
            refine e_getR (dx D_x_copy 44 rfl) fl_RX8_67 rfl rfl ?_
            refine e_iload_n (dx D_x_copy 45 rfl) rfl ?_
            refine e_iload_n (dx D_x_copy 46 rfl) rfl ?_
            refine e_iload (dx D_x_copy 47 rfl) rfl ?_
            refine e_callVi (rest := []) [.int x1, .int x2, .int x5] (dx D_x_copy 48 rfl) ln_x_copy_310 rfl rfl rfl (Nat.le_of_ble_eq_true rfl) h (fun r6 g5 h => ?_)
            refine e_if_eq (tgt := 115) (dx D_x_copy 49 rfl) (by decide) (fun c => ?_) (fun c => ?_)
            · replace h := h.1 c
              refine e_aload_n (dx D_x_copy 57 rfl) rfl ?_
              refine e_getR (dx D_x_copy 58 rfl) fl_RX8_67 rfl rfl ?_
              refine q_iconst (v := 2) (dx D_x_copy 59 rfl) (by decide) ?_
              refine e_callVi (Q1 := fun r g' => ((-10) - 2) = r ∧ (sgU g5 30 3 2) = g') (rest := []) [.int 2] (dx D_x_copy 60 rfl) ln_x_copy_163 rfl rfl rfl (Nat.le_of_ble_eq_true rfl) (Is_found  ⟨rfl, rfl⟩) (fun r g' hh => ?_)
              obtain ⟨rfl, rfl⟩ := hh
              exact e_iret (dx D_x_copy 61 rfl) rfl rfl ⟨_, rfl, h⟩
            · replace h := h.2 c
              refine e_aload_n (dx D_x_copy 50 rfl) rfl ?_
              refine e_getR (dx D_x_copy 51 rfl) fl_RX8_67 rfl rfl ?_
              refine e_iload_n (dx D_x_copy 52 rfl) rfl ?_
              refine e_iload (dx D_x_copy 53 rfl) rfl ?_
              refine e_iload (dx D_x_copy 54 rfl) rfl ?_
              refine e_callVi (rest := []) [.int x3, .int x4, .int x5] (dx D_x_copy 55 rfl) ln_x_copy_310 rfl rfl rfl (Nat.le_of_ble_eq_true rfl) h (fun r8 g7 h => ?_)
              refine e_if_ne (tgt := 124) (dx D_x_copy 56 rfl) (by decide) (fun c => ?_) (fun c => ?_)
              · replace h := h.2 c
                refine e_aload_n (dx D_x_copy 62 rfl) rfl ?_
                refine e_getR (dx D_x_copy 63 rfl) fl_RX8_67 rfl rfl ?_
                refine e_iload_n (dx D_x_copy 64 rfl) rfl ?_
                refine e_iload_n (dx D_x_copy 65 rfl) rfl ?_
                refine e_iload_n (dx D_x_copy 66 rfl) rfl ?_
                refine e_iload (dx D_x_copy 67 rfl) rfl ?_
                refine e_iload (dx D_x_copy 68 rfl) rfl ?_
                refine e_callVv (rest := []) [.int x1, .int x2, .int x3, .int x4, .int x5] (dx D_x_copy 69 rfl) ln_x_copy_313 rfl rfl rfl (Nat.le_of_ble_eq_true rfl) h (fun g9 h => ?_)
                refine q_iconst (v := 1) (dx D_x_copy 70 rfl) (by decide) ?_
                exact e_iret (dx D_x_copy 71 rfl) rfl rfl ⟨_, rfl, h⟩
              · replace h := h.1 c
                refine e_aload_n (dx D_x_copy 57 rfl) rfl ?_
                refine e_getR (dx D_x_copy 58 rfl) fl_RX8_67 rfl rfl ?_
                refine q_iconst (v := 2) (dx D_x_copy 59 rfl) (by decide) ?_
                refine e_callVi (Q1 := fun r g' => ((-10) - 2) = r ∧ (sgU g7 30 3 2) = g') (rest := []) [.int 2] (dx D_x_copy 60 rfl) ln_x_copy_163 rfl rfl rfl (Nat.le_of_ble_eq_true rfl) (Is_found  ⟨rfl, rfl⟩) (fun r g' hh => ?_)
                obtain ⟨rfl, rfl⟩ := hh
                exact e_iret (dx D_x_copy 61 rfl) rfl rfl ⟨_, rfl, h⟩
          · replace h := h.2 c
            refine e_aload_n (dx D_x_copy 38 rfl) rfl ?_
            refine e_getR (dx D_x_copy 39 rfl) fl_RX8_67 rfl rfl ?_
            refine q_iconst (v := 4) (dx D_x_copy 40 rfl) (by decide) ?_
            refine e_callVi (Q1 := fun r g' => ((-10) - 4) = r ∧ (sgU g 30 3 4) = g') (rest := []) [.int 4] (dx D_x_copy 41 rfl) ln_x_copy_163 rfl rfl rfl (Nat.le_of_ble_eq_true rfl) (Is_found  ⟨rfl, rfl⟩) (fun r g' hh => ?_)
            obtain ⟨rfl, rfl⟩ := hh
            exact e_iret (dx D_x_copy 42 rfl) rfl rfl ⟨_, rfl, h⟩
        · replace h := h.1 (bP_n c)
          refine e_aload_n (dx D_x_copy 22 rfl) rfl ?_
          refine e_getR (dx D_x_copy 23 rfl) fl_RX8_67 rfl rfl ?_
          refine q_iconst (v := 1) (dx D_x_copy 24 rfl) (by decide) ?_
          refine e_callVi (Q1 := fun r g' => ((-10) - 1) = r ∧ (sgU g 30 3 1) = g') (rest := []) [.int 1] (dx D_x_copy 25 rfl) ln_x_copy_163 rfl rfl rfl (Nat.le_of_ble_eq_true rfl) (Is_found  ⟨rfl, rfl⟩) (fun r g' hh => ?_)
          obtain ⟨rfl, rfl⟩ := hh
          exact e_iret (dx D_x_copy 26 rfl) rfl rfl ⟨_, rfl, h⟩
    · replace h := h.2 (bP_z c)
      refine q_bipush (v := (-2)) (dx D_x_copy 10 rfl) (by decide) ?_
      exact e_iret (dx D_x_copy 11 rfl) rfl rfl ⟨_, rfl, h⟩
abbrev Cx_write (x1 : Int32) (x2 : Int32) (x3 : Int32) (g : Sg) (Q : Int32 → Sg → Prop) : Prop := Ci Mx_write [.ref 0, .int x1, .int x2, .int x3] g Q
abbrev Hx_write_77 (x3 : Int32) (x4 : Int32) (x5 : Int32) (g : Sg) (Q : Int32 → Sg → Prop) : Prop := Hi Mx_write 77 [some (.ref 0), none, none, some (.int x3), some (.int x4), some (.int x5)] [] g Q
set_option maxRecDepth 20000 in
theorem Vx_write {x1 : Int32} {x2 : Int32} {x3 : Int32} {g : Sg} {Q : Int32 → Sg → Prop} (h : (((twoE x1 x2) → (((isS x3) → vp_in x3 4 ∧ (((g 32 (x3).toNatClampNeg = (-1)) → Q ((-10) - 1) (sgU g 30 3 1)) ∧ (¬ (g 32 (x3).toNatClampNeg = (-1)) → Cx_findWay x1 x2 g (fun r3 g2 => ((r3 = 0 → Q 0 g2) ∧ (¬ r3 = 0 → vp_in x3 4 ∧ Hx_write_77 x3 (if (g2 33 (x3).toNatClampNeg) < (g2 7 4) then (g2 33 (x3).toNatClampNeg) else (g2 7 4)) 0 g2 Q)))))) ∧ (¬ (isS x3) → Q (-2) g))) ∧ (¬ (twoE x1 x2) → Q (-2) g))) : Cx_write x1 x2 x3 g Q := by
  refine Cl.of 2 pl_X8 rfl ?_
  refine e_iload_n (dx D_x_write 0 rfl) rfl ?_
  refine e_iload_n (dx D_x_write 1 rfl) rfl ?_
  refine e_callSi (Q1 := fun r g' => bP (twoE x1 x2) = r ∧ g = g') (rest := []) [.int x1, .int x2] (dx D_x_write 2 rfl) ln_x_write_143 rfl rfl (Nat.le_of_ble_eq_true rfl) (Ix_areTwoEnds  ⟨rfl, rfl⟩) (fun r g' hh => ?_)
  obtain ⟨rfl, rfl⟩ := hh
  refine e_if_eq (tgt := 19) (dx D_x_write 3 rfl) (by decide) (fun c => ?_) (fun c => ?_)
  · replace h := h.2 (bP_z c)
    refine q_bipush (v := (-2)) (dx D_x_write 9 rfl) (by decide) ?_
    exact e_iret (dx D_x_write 10 rfl) rfl rfl ⟨_, rfl, h⟩
  · replace h := h.1 (bP_n c)
    refine e_aload_n (dx D_x_write 4 rfl) rfl ?_
    refine e_getR (dx D_x_write 5 rfl) fl_RX8_67 rfl rfl ?_
    refine e_iload_n (dx D_x_write 6 rfl) rfl ?_
    refine e_callVi (Q1 := fun r g' => bP (isS x3) = r ∧ g = g') (rest := []) [.int x3] (dx D_x_write 7 rfl) ln_x_write_157 rfl rfl rfl (Nat.le_of_ble_eq_true rfl) (Is_hasSheet  ⟨rfl, rfl⟩) (fun r g' hh => ?_)
    obtain ⟨rfl, rfl⟩ := hh
    refine e_if_ne (tgt := 22) (dx D_x_write 8 rfl) (by decide) (fun c => ?_) (fun c => ?_)
    · replace h := h.1 (bP_n c)
      refine e_aload_n (dx D_x_write 11 rfl) rfl ?_
      refine e_getR (dx D_x_write 12 rfl) fl_RX8_67 rfl rfl ?_
      refine e_iload_n (dx D_x_write 13 rfl) rfl ?_
      obtain ⟨hb1, h⟩ := h
      refine e_callVi (Q1 := fun r g' => bP (g 32 (x3).toNatClampNeg = (-1)) = r ∧ g = g') (rest := []) [.int x3] (dx D_x_write 14 rfl) ln_x_write_160 rfl rfl rfl (Nat.le_of_ble_eq_true rfl) (Is_isLost hb1 ⟨rfl, rfl⟩) (fun r g' hh => ?_)
      obtain ⟨rfl, rfl⟩ := hh
      refine e_if_eq (tgt := 42) (dx D_x_write 15 rfl) (by decide) (fun c => ?_) (fun c => ?_)
      · replace h := h.2 (bP_z c)
        refine e_aload_n (dx D_x_write 21 rfl) rfl ?_
        refine e_iload_n (dx D_x_write 22 rfl) rfl ?_
        refine e_iload_n (dx D_x_write 23 rfl) rfl ?_
        refine e_callVi (rest := []) [.int x1, .int x2] (dx D_x_write 24 rfl) ln_x_write_193 rfl rfl rfl (Nat.le_of_ble_eq_true rfl) h (fun r3 g2 h => ?_)
        refine e_if_ne (tgt := 53) (dx D_x_write 25 rfl) (by decide) (fun c => ?_) (fun c => ?_)
        · replace h := h.2 c
          refine e_aload_n (dx D_x_write 28 rfl) rfl ?_
          refine e_getR (dx D_x_write 29 rfl) fl_RX8_21 rfl rfl ?_
          refine e_getI (dx D_x_write 30 rfl) fl_RX8_199 rfl rfl ?_
          refine e_aload_n (dx D_x_write 31 rfl) rfl ?_
          refine e_getR (dx D_x_write 32 rfl) fl_RX8_67 rfl rfl ?_
          refine e_getR (dx D_x_write 33 rfl) fl_RX8_166 rfl rfl ?_
          refine e_iload_n (dx D_x_write 34 rfl) rfl ?_
          obtain ⟨hb4, h⟩ := h
          refine e_iald (dx D_x_write 35 rfl) rfl hb4 ?_
          refine e_mmin (dx D_x_write 36 rfl) mk_RX8_317 (by decide) (Nat.le_of_ble_eq_true rfl) ?_
          refine q_istore (L' := [some (.ref 0), some (.int x1), some (.int x2), some (.int x3), some (.int (if (g2 33 (x3).toNatClampNeg) < (g2 7 4) then (g2 33 (x3).toNatClampNeg) else (g2 7 4))), none]) (dx D_x_write 37 rfl) (by decide) rfl ?_
          refine q_iconst (v := 0) (dx D_x_write 38 rfl) (by decide) ?_
          refine q_istore (L' := [some (.ref 0), some (.int x1), some (.int x2), some (.int x3), some (.int (if (g2 33 (x3).toNatClampNeg) < (g2 7 4) then (g2 33 (x3).toNatClampNeg) else (g2 7 4))), some (.int 0)]) (dx D_x_write 39 rfl) (by decide) rfl ?_
          exact Wp.mask [true, false, false, true, true, true] h
        · replace h := h.1 c
          refine q_iconst (v := 0) (dx D_x_write 26 rfl) (by decide) ?_
          exact e_iret (dx D_x_write 27 rfl) rfl rfl ⟨_, rfl, h⟩
      · replace h := h.1 (bP_n c)
        refine e_aload_n (dx D_x_write 16 rfl) rfl ?_
        refine e_getR (dx D_x_write 17 rfl) fl_RX8_67 rfl rfl ?_
        refine q_iconst (v := 1) (dx D_x_write 18 rfl) (by decide) ?_
        refine e_callVi (Q1 := fun r g' => ((-10) - 1) = r ∧ (sgU g 30 3 1) = g') (rest := []) [.int 1] (dx D_x_write 19 rfl) ln_x_write_163 rfl rfl rfl (Nat.le_of_ble_eq_true rfl) (Is_found  ⟨rfl, rfl⟩) (fun r g' hh => ?_)
        obtain ⟨rfl, rfl⟩ := hh
        exact e_iret (dx D_x_write 20 rfl) rfl rfl ⟨_, rfl, h⟩
    · replace h := h.2 (bP_z c)
      refine q_bipush (v := (-2)) (dx D_x_write 9 rfl) (by decide) ?_
      exact e_iret (dx D_x_write 10 rfl) rfl rfl ⟨_, rfl, h⟩
set_option maxRecDepth 20000 in
theorem Vx_write_77 {x3 : Int32} {x4 : Int32} {x5 : Int32} {g : Sg} {Q : Int32 → Sg → Prop} (h : ((x4 ≤ x5 → Q x4 g) ∧ (¬ x4 ≤ x5 → vp_in x5 8 ∧ Cs_store x3 x5 (g 10 (x5).toNatClampNeg) g (fun g2 => Hx_write_77 x3 x4 (x5 + 1) g2 Q)))) : Hx_write_77 x3 x4 x5 g Q := by
  refine e_iload (dx D_x_write 40 rfl) rfl ?_
  refine e_iload (dx D_x_write 41 rfl) rfl ?_
  refine e_icmp_ge (tgt := 110) (dx D_x_write 42 rfl) (by decide) (fun c => ?_) (fun c => ?_)
  · replace h := h.1 c
    refine e_iload (dx D_x_write 55 rfl) rfl ?_
    exact e_iret (dx D_x_write 56 rfl) rfl rfl ⟨_, rfl, h⟩
  · replace h := h.2 c
    refine e_aload_n (dx D_x_write 43 rfl) rfl ?_
    refine e_getR (dx D_x_write 44 rfl) fl_RX8_67 rfl rfl ?_
    refine e_iload_n (dx D_x_write 45 rfl) rfl ?_
    refine e_iload (dx D_x_write 46 rfl) rfl ?_
    refine e_aload_n (dx D_x_write 47 rfl) rfl ?_
    refine e_getR (dx D_x_write 48 rfl) fl_RX8_21 rfl rfl ?_
    refine e_getR (dx D_x_write 49 rfl) fl_RX8_202 rfl rfl ?_
    refine e_iload (dx D_x_write 50 rfl) rfl ?_
    obtain ⟨hb1, h⟩ := h
    refine e_iald (dx D_x_write 51 rfl) rfl hb1 ?_
    refine e_callVv (rest := []) [.int x3, .int x5, .int (g 10 (x5).toNatClampNeg)] (dx D_x_write 52 rfl) ln_x_write_303 rfl rfl rfl (Nat.le_of_ble_eq_true rfl) h (fun g2 h => ?_)
    refine q_iinc (d := 1) (L' := [some (.ref 0), none, none, some (.int x3), some (.int x4), some (.int (x5 + 1))]) (dx D_x_write 53 rfl) rfl (by decide) (by decide) rfl ?_
    refine e_goto (tgt := 77) (dx D_x_write 54 rfl) (by decide) ?_
    exact h
abbrev Ck_bitCount (x0 : Int32) (g : Sg) (Q : Int32 → Sg → Prop) : Prop := Ci Mk_bitCount [.int x0] g Q
set_option maxRecDepth 20000 in
theorem Vk_bitCount {x0 : Int32} {g : Sg} {Q : Int32 → Sg → Prop} (h : Q ((((((((x0 - ((Int32.toUInt32 x0 >>> (Int32.toUInt32 1 &&& Int32.toUInt32 31)).toInt32 &&& 1431655765)) &&& 858993459) + ((Int32.toUInt32 (x0 - ((Int32.toUInt32 x0 >>> (Int32.toUInt32 1 &&& Int32.toUInt32 31)).toInt32 &&& 1431655765)) >>> (Int32.toUInt32 2 &&& Int32.toUInt32 31)).toInt32 &&& 858993459)) + (Int32.toUInt32 (((x0 - ((Int32.toUInt32 x0 >>> (Int32.toUInt32 1 &&& Int32.toUInt32 31)).toInt32 &&& 1431655765)) &&& 858993459) + ((Int32.toUInt32 (x0 - ((Int32.toUInt32 x0 >>> (Int32.toUInt32 1 &&& Int32.toUInt32 31)).toInt32 &&& 1431655765)) >>> (Int32.toUInt32 2 &&& Int32.toUInt32 31)).toInt32 &&& 858993459)) >>> (Int32.toUInt32 4 &&& Int32.toUInt32 31)).toInt32) &&& 252645135) + (Int32.toUInt32 (((((x0 - ((Int32.toUInt32 x0 >>> (Int32.toUInt32 1 &&& Int32.toUInt32 31)).toInt32 &&& 1431655765)) &&& 858993459) + ((Int32.toUInt32 (x0 - ((Int32.toUInt32 x0 >>> (Int32.toUInt32 1 &&& Int32.toUInt32 31)).toInt32 &&& 1431655765)) >>> (Int32.toUInt32 2 &&& Int32.toUInt32 31)).toInt32 &&& 858993459)) + (Int32.toUInt32 (((x0 - ((Int32.toUInt32 x0 >>> (Int32.toUInt32 1 &&& Int32.toUInt32 31)).toInt32 &&& 1431655765)) &&& 858993459) + ((Int32.toUInt32 (x0 - ((Int32.toUInt32 x0 >>> (Int32.toUInt32 1 &&& Int32.toUInt32 31)).toInt32 &&& 1431655765)) >>> (Int32.toUInt32 2 &&& Int32.toUInt32 31)).toInt32 &&& 858993459)) >>> (Int32.toUInt32 4 &&& Int32.toUInt32 31)).toInt32) &&& 252645135) >>> (Int32.toUInt32 8 &&& Int32.toUInt32 31)).toInt32) + (Int32.toUInt32 ((((((x0 - ((Int32.toUInt32 x0 >>> (Int32.toUInt32 1 &&& Int32.toUInt32 31)).toInt32 &&& 1431655765)) &&& 858993459) + ((Int32.toUInt32 (x0 - ((Int32.toUInt32 x0 >>> (Int32.toUInt32 1 &&& Int32.toUInt32 31)).toInt32 &&& 1431655765)) >>> (Int32.toUInt32 2 &&& Int32.toUInt32 31)).toInt32 &&& 858993459)) + (Int32.toUInt32 (((x0 - ((Int32.toUInt32 x0 >>> (Int32.toUInt32 1 &&& Int32.toUInt32 31)).toInt32 &&& 1431655765)) &&& 858993459) + ((Int32.toUInt32 (x0 - ((Int32.toUInt32 x0 >>> (Int32.toUInt32 1 &&& Int32.toUInt32 31)).toInt32 &&& 1431655765)) >>> (Int32.toUInt32 2 &&& Int32.toUInt32 31)).toInt32 &&& 858993459)) >>> (Int32.toUInt32 4 &&& Int32.toUInt32 31)).toInt32) &&& 252645135) + (Int32.toUInt32 (((((x0 - ((Int32.toUInt32 x0 >>> (Int32.toUInt32 1 &&& Int32.toUInt32 31)).toInt32 &&& 1431655765)) &&& 858993459) + ((Int32.toUInt32 (x0 - ((Int32.toUInt32 x0 >>> (Int32.toUInt32 1 &&& Int32.toUInt32 31)).toInt32 &&& 1431655765)) >>> (Int32.toUInt32 2 &&& Int32.toUInt32 31)).toInt32 &&& 858993459)) + (Int32.toUInt32 (((x0 - ((Int32.toUInt32 x0 >>> (Int32.toUInt32 1 &&& Int32.toUInt32 31)).toInt32 &&& 1431655765)) &&& 858993459) + ((Int32.toUInt32 (x0 - ((Int32.toUInt32 x0 >>> (Int32.toUInt32 1 &&& Int32.toUInt32 31)).toInt32 &&& 1431655765)) >>> (Int32.toUInt32 2 &&& Int32.toUInt32 31)).toInt32 &&& 858993459)) >>> (Int32.toUInt32 4 &&& Int32.toUInt32 31)).toInt32) &&& 252645135) >>> (Int32.toUInt32 8 &&& Int32.toUInt32 31)).toInt32) >>> (Int32.toUInt32 16 &&& Int32.toUInt32 31)).toInt32) &&& 63) g) : Ck_bitCount x0 g Q := by
  refine Cl.of 0 pl_J6 rfl ?_
  refine e_iload_n (dx D_k_bitCount 0 rfl) rfl ?_
  refine e_iload_n (dx D_k_bitCount 1 rfl) rfl ?_
  refine q_iconst (v := 1) (dx D_k_bitCount 2 rfl) (by decide) ?_
  refine e_iushr (dx D_k_bitCount 3 rfl) ?_
  refine e_ldcw (v := 1431655765) (dx D_k_bitCount 4 rfl) k902 ?_
  refine e_iand (dx D_k_bitCount 5 rfl) ?_
  refine e_isub (dx D_k_bitCount 6 rfl) ?_
  refine q_istore_n (L' := [some (.int (x0 - ((Int32.toUInt32 x0 >>> (Int32.toUInt32 1 &&& Int32.toUInt32 31)).toInt32 &&& 1431655765)))]) (dx D_k_bitCount 7 rfl) (by decide) rfl ?_
  refine e_iload_n (dx D_k_bitCount 8 rfl) rfl ?_
  refine e_ldcw (v := 858993459) (dx D_k_bitCount 9 rfl) k903 ?_
  refine e_iand (dx D_k_bitCount 10 rfl) ?_
  refine e_iload_n (dx D_k_bitCount 11 rfl) rfl ?_
  refine q_iconst (v := 2) (dx D_k_bitCount 12 rfl) (by decide) ?_
  refine e_iushr (dx D_k_bitCount 13 rfl) ?_
  refine e_ldcw (v := 858993459) (dx D_k_bitCount 14 rfl) k903 ?_
  refine e_iand (dx D_k_bitCount 15 rfl) ?_
  refine e_iadd (dx D_k_bitCount 16 rfl) ?_
  refine q_istore_n (L' := [some (.int (((x0 - ((Int32.toUInt32 x0 >>> (Int32.toUInt32 1 &&& Int32.toUInt32 31)).toInt32 &&& 1431655765)) &&& 858993459) + ((Int32.toUInt32 (x0 - ((Int32.toUInt32 x0 >>> (Int32.toUInt32 1 &&& Int32.toUInt32 31)).toInt32 &&& 1431655765)) >>> (Int32.toUInt32 2 &&& Int32.toUInt32 31)).toInt32 &&& 858993459)))]) (dx D_k_bitCount 17 rfl) (by decide) rfl ?_
  refine e_iload_n (dx D_k_bitCount 18 rfl) rfl ?_
  refine e_iload_n (dx D_k_bitCount 19 rfl) rfl ?_
  refine q_iconst (v := 4) (dx D_k_bitCount 20 rfl) (by decide) ?_
  refine e_iushr (dx D_k_bitCount 21 rfl) ?_
  refine e_iadd (dx D_k_bitCount 22 rfl) ?_
  refine e_ldcw (v := 252645135) (dx D_k_bitCount 23 rfl) k904 ?_
  refine e_iand (dx D_k_bitCount 24 rfl) ?_
  refine q_istore_n (L' := [some (.int (((((x0 - ((Int32.toUInt32 x0 >>> (Int32.toUInt32 1 &&& Int32.toUInt32 31)).toInt32 &&& 1431655765)) &&& 858993459) + ((Int32.toUInt32 (x0 - ((Int32.toUInt32 x0 >>> (Int32.toUInt32 1 &&& Int32.toUInt32 31)).toInt32 &&& 1431655765)) >>> (Int32.toUInt32 2 &&& Int32.toUInt32 31)).toInt32 &&& 858993459)) + (Int32.toUInt32 (((x0 - ((Int32.toUInt32 x0 >>> (Int32.toUInt32 1 &&& Int32.toUInt32 31)).toInt32 &&& 1431655765)) &&& 858993459) + ((Int32.toUInt32 (x0 - ((Int32.toUInt32 x0 >>> (Int32.toUInt32 1 &&& Int32.toUInt32 31)).toInt32 &&& 1431655765)) >>> (Int32.toUInt32 2 &&& Int32.toUInt32 31)).toInt32 &&& 858993459)) >>> (Int32.toUInt32 4 &&& Int32.toUInt32 31)).toInt32) &&& 252645135))]) (dx D_k_bitCount 25 rfl) (by decide) rfl ?_
  refine e_iload_n (dx D_k_bitCount 26 rfl) rfl ?_
  refine e_iload_n (dx D_k_bitCount 27 rfl) rfl ?_
  refine q_bipush (v := 8) (dx D_k_bitCount 28 rfl) (by decide) ?_
  refine e_iushr (dx D_k_bitCount 29 rfl) ?_
  refine e_iadd (dx D_k_bitCount 30 rfl) ?_
  refine q_istore_n (L' := [some (.int ((((((x0 - ((Int32.toUInt32 x0 >>> (Int32.toUInt32 1 &&& Int32.toUInt32 31)).toInt32 &&& 1431655765)) &&& 858993459) + ((Int32.toUInt32 (x0 - ((Int32.toUInt32 x0 >>> (Int32.toUInt32 1 &&& Int32.toUInt32 31)).toInt32 &&& 1431655765)) >>> (Int32.toUInt32 2 &&& Int32.toUInt32 31)).toInt32 &&& 858993459)) + (Int32.toUInt32 (((x0 - ((Int32.toUInt32 x0 >>> (Int32.toUInt32 1 &&& Int32.toUInt32 31)).toInt32 &&& 1431655765)) &&& 858993459) + ((Int32.toUInt32 (x0 - ((Int32.toUInt32 x0 >>> (Int32.toUInt32 1 &&& Int32.toUInt32 31)).toInt32 &&& 1431655765)) >>> (Int32.toUInt32 2 &&& Int32.toUInt32 31)).toInt32 &&& 858993459)) >>> (Int32.toUInt32 4 &&& Int32.toUInt32 31)).toInt32) &&& 252645135) + (Int32.toUInt32 (((((x0 - ((Int32.toUInt32 x0 >>> (Int32.toUInt32 1 &&& Int32.toUInt32 31)).toInt32 &&& 1431655765)) &&& 858993459) + ((Int32.toUInt32 (x0 - ((Int32.toUInt32 x0 >>> (Int32.toUInt32 1 &&& Int32.toUInt32 31)).toInt32 &&& 1431655765)) >>> (Int32.toUInt32 2 &&& Int32.toUInt32 31)).toInt32 &&& 858993459)) + (Int32.toUInt32 (((x0 - ((Int32.toUInt32 x0 >>> (Int32.toUInt32 1 &&& Int32.toUInt32 31)).toInt32 &&& 1431655765)) &&& 858993459) + ((Int32.toUInt32 (x0 - ((Int32.toUInt32 x0 >>> (Int32.toUInt32 1 &&& Int32.toUInt32 31)).toInt32 &&& 1431655765)) >>> (Int32.toUInt32 2 &&& Int32.toUInt32 31)).toInt32 &&& 858993459)) >>> (Int32.toUInt32 4 &&& Int32.toUInt32 31)).toInt32) &&& 252645135) >>> (Int32.toUInt32 8 &&& Int32.toUInt32 31)).toInt32))]) (dx D_k_bitCount 31 rfl) (by decide) rfl ?_
  refine e_iload_n (dx D_k_bitCount 32 rfl) rfl ?_
  refine e_iload_n (dx D_k_bitCount 33 rfl) rfl ?_
  refine q_bipush (v := 16) (dx D_k_bitCount 34 rfl) (by decide) ?_
  refine e_iushr (dx D_k_bitCount 35 rfl) ?_
  refine e_iadd (dx D_k_bitCount 36 rfl) ?_
  refine q_istore_n (L' := [some (.int (((((((x0 - ((Int32.toUInt32 x0 >>> (Int32.toUInt32 1 &&& Int32.toUInt32 31)).toInt32 &&& 1431655765)) &&& 858993459) + ((Int32.toUInt32 (x0 - ((Int32.toUInt32 x0 >>> (Int32.toUInt32 1 &&& Int32.toUInt32 31)).toInt32 &&& 1431655765)) >>> (Int32.toUInt32 2 &&& Int32.toUInt32 31)).toInt32 &&& 858993459)) + (Int32.toUInt32 (((x0 - ((Int32.toUInt32 x0 >>> (Int32.toUInt32 1 &&& Int32.toUInt32 31)).toInt32 &&& 1431655765)) &&& 858993459) + ((Int32.toUInt32 (x0 - ((Int32.toUInt32 x0 >>> (Int32.toUInt32 1 &&& Int32.toUInt32 31)).toInt32 &&& 1431655765)) >>> (Int32.toUInt32 2 &&& Int32.toUInt32 31)).toInt32 &&& 858993459)) >>> (Int32.toUInt32 4 &&& Int32.toUInt32 31)).toInt32) &&& 252645135) + (Int32.toUInt32 (((((x0 - ((Int32.toUInt32 x0 >>> (Int32.toUInt32 1 &&& Int32.toUInt32 31)).toInt32 &&& 1431655765)) &&& 858993459) + ((Int32.toUInt32 (x0 - ((Int32.toUInt32 x0 >>> (Int32.toUInt32 1 &&& Int32.toUInt32 31)).toInt32 &&& 1431655765)) >>> (Int32.toUInt32 2 &&& Int32.toUInt32 31)).toInt32 &&& 858993459)) + (Int32.toUInt32 (((x0 - ((Int32.toUInt32 x0 >>> (Int32.toUInt32 1 &&& Int32.toUInt32 31)).toInt32 &&& 1431655765)) &&& 858993459) + ((Int32.toUInt32 (x0 - ((Int32.toUInt32 x0 >>> (Int32.toUInt32 1 &&& Int32.toUInt32 31)).toInt32 &&& 1431655765)) >>> (Int32.toUInt32 2 &&& Int32.toUInt32 31)).toInt32 &&& 858993459)) >>> (Int32.toUInt32 4 &&& Int32.toUInt32 31)).toInt32) &&& 252645135) >>> (Int32.toUInt32 8 &&& Int32.toUInt32 31)).toInt32) + (Int32.toUInt32 ((((((x0 - ((Int32.toUInt32 x0 >>> (Int32.toUInt32 1 &&& Int32.toUInt32 31)).toInt32 &&& 1431655765)) &&& 858993459) + ((Int32.toUInt32 (x0 - ((Int32.toUInt32 x0 >>> (Int32.toUInt32 1 &&& Int32.toUInt32 31)).toInt32 &&& 1431655765)) >>> (Int32.toUInt32 2 &&& Int32.toUInt32 31)).toInt32 &&& 858993459)) + (Int32.toUInt32 (((x0 - ((Int32.toUInt32 x0 >>> (Int32.toUInt32 1 &&& Int32.toUInt32 31)).toInt32 &&& 1431655765)) &&& 858993459) + ((Int32.toUInt32 (x0 - ((Int32.toUInt32 x0 >>> (Int32.toUInt32 1 &&& Int32.toUInt32 31)).toInt32 &&& 1431655765)) >>> (Int32.toUInt32 2 &&& Int32.toUInt32 31)).toInt32 &&& 858993459)) >>> (Int32.toUInt32 4 &&& Int32.toUInt32 31)).toInt32) &&& 252645135) + (Int32.toUInt32 (((((x0 - ((Int32.toUInt32 x0 >>> (Int32.toUInt32 1 &&& Int32.toUInt32 31)).toInt32 &&& 1431655765)) &&& 858993459) + ((Int32.toUInt32 (x0 - ((Int32.toUInt32 x0 >>> (Int32.toUInt32 1 &&& Int32.toUInt32 31)).toInt32 &&& 1431655765)) >>> (Int32.toUInt32 2 &&& Int32.toUInt32 31)).toInt32 &&& 858993459)) + (Int32.toUInt32 (((x0 - ((Int32.toUInt32 x0 >>> (Int32.toUInt32 1 &&& Int32.toUInt32 31)).toInt32 &&& 1431655765)) &&& 858993459) + ((Int32.toUInt32 (x0 - ((Int32.toUInt32 x0 >>> (Int32.toUInt32 1 &&& Int32.toUInt32 31)).toInt32 &&& 1431655765)) >>> (Int32.toUInt32 2 &&& Int32.toUInt32 31)).toInt32 &&& 858993459)) >>> (Int32.toUInt32 4 &&& Int32.toUInt32 31)).toInt32) &&& 252645135) >>> (Int32.toUInt32 8 &&& Int32.toUInt32 31)).toInt32) >>> (Int32.toUInt32 16 &&& Int32.toUInt32 31)).toInt32))]) (dx D_k_bitCount 37 rfl) (by decide) rfl ?_
  refine e_iload_n (dx D_k_bitCount 38 rfl) rfl ?_
  refine q_bipush (v := 63) (dx D_k_bitCount 39 rfl) (by decide) ?_
  refine e_iand (dx D_k_bitCount 40 rfl) ?_
  exact e_iret (dx D_k_bitCount 41 rfl) rfl rfl ⟨_, rfl, h⟩
abbrev Cx_count (x1 : Int32) (g : Sg) (Q : Int32 → Sg → Prop) : Prop := Ci Mx_count [.ref 0, .int x1] g Q
set_option maxRecDepth 20000 in
theorem Vx_count {x1 : Int32} {g : Sg} {Q : Int32 → Sg → Prop} (h : (((x1).toInt < 0 ∨ 8 < (x1).toInt → Q (-2) g) ∧ (x1 = 0 → Q (g 1 8) g) ∧ (x1 = 1 → Q (g 1 5) g) ∧ (x1 = 2 → Q (g 11 6) g) ∧ (x1 = 3 → Cb_howManyDone g (fun r2 g1 => Q r2 g1)) ∧ (x1 = 4 → vp_in (g 11 6) 17 ∧ Ck_bitCount (g 14 (g 11 6).toNatClampNeg) g (fun r5 g4 => Q r5 g4)) ∧ (x1 = 5 → Q (g 26 3) g) ∧ (x1 = 6 → Q (g 26 4) g) ∧ (x1 = 7 → Cp_wholeLength g (fun r7 g6 => Q r7 g6)) ∧ (x1 = 8 → Q (g 30 3) g))) : Cx_count x1 g Q := by
  refine Cl.of 0 pl_X8 rfl ?_
  refine e_iload_n (dx D_x_count 0 rfl) rfl ?_
  refine q_tbl [52, 60, 68, 76, 84, 95, 103, 111, 119] 127 (dx D_x_count 1 rfl) (by decide) (by decide) (by decide) (fun c => ?_) (fun i t ht c => ?_)
  · replace h := h.1 c
    refine q_bipush (v := (-2)) (dx D_x_count 39 rfl) (by decide) ?_
    exact e_iret (dx D_x_count 40 rfl) rfl rfl ⟨_, rfl, h⟩
  · match i, ht, c with
    | 0, ht, c =>
      cases ht; replace h := h.2.1 (tb_eq c (by decide))
      refine e_aload_n (dx D_x_count 2 rfl) rfl ?_
      refine e_getR (dx D_x_count 3 rfl) fl_RX8_10 rfl rfl ?_
      refine e_getI (dx D_x_count 4 rfl) fl_RX8_92 rfl rfl ?_
      exact e_iret (dx D_x_count 5 rfl) rfl rfl ⟨_, rfl, h⟩
    | 1, ht, c =>
      cases ht; replace h := h.2.2.1 (tb_eq c (by decide))
      refine e_aload_n (dx D_x_count 6 rfl) rfl ?_
      refine e_getR (dx D_x_count 7 rfl) fl_RX8_10 rfl rfl ?_
      refine e_getI (dx D_x_count 8 rfl) fl_RX8_79 rfl rfl ?_
      exact e_iret (dx D_x_count 9 rfl) rfl rfl ⟨_, rfl, h⟩
    | 2, ht, c =>
      cases ht; replace h := h.2.2.2.1 (tb_eq c (by decide))
      refine e_aload_n (dx D_x_count 10 rfl) rfl ?_
      refine e_getR (dx D_x_count 11 rfl) fl_RX8_30 rfl rfl ?_
      refine e_getI (dx D_x_count 12 rfl) fl_RX8_153 rfl rfl ?_
      exact e_iret (dx D_x_count 13 rfl) rfl rfl ⟨_, rfl, h⟩
    | 3, ht, c =>
      cases ht; replace h := h.2.2.2.2.1 (tb_eq c (by decide))
      refine e_aload_n (dx D_x_count 14 rfl) rfl ?_
      refine e_getR (dx D_x_count 15 rfl) fl_RX8_30 rfl rfl ?_
      refine e_callVi (rest := []) [] (dx D_x_count 16 rfl) ln_x_count_320 rfl rfl rfl (Nat.le_of_ble_eq_true rfl) h (fun r2 g1 h => ?_)
      exact e_iret (dx D_x_count 17 rfl) rfl rfl ⟨_, rfl, h⟩
    | 4, ht, c =>
      cases ht; replace h := h.2.2.2.2.2.1 (tb_eq c (by decide))
      refine e_aload_n (dx D_x_count 18 rfl) rfl ?_
      refine e_getR (dx D_x_count 19 rfl) fl_RX8_30 rfl rfl ?_
      obtain ⟨hb3, h⟩ := h
      refine e_callVi (Q1 := fun r g' => (g 14 (g 11 6).toNatClampNeg) = r ∧ g = g') (rest := []) [] (dx D_x_count 20 rfl) ln_x_count_118 rfl rfl rfl (Nat.le_of_ble_eq_true rfl) (Ib_lyingNow hb3 ⟨rfl, rfl⟩) (fun r g' hh => ?_)
      obtain ⟨rfl, rfl⟩ := hh
      refine e_callSi (rest := []) [.int (g 14 (g 11 6).toNatClampNeg)] (dx D_x_count 21 rfl) ln_x_count_323 rfl rfl (Nat.le_of_ble_eq_true rfl) h (fun r5 g4 h => ?_)
      exact e_iret (dx D_x_count 22 rfl) rfl rfl ⟨_, rfl, h⟩
    | 5, ht, c =>
      cases ht; replace h := h.2.2.2.2.2.2.1 (tb_eq c (by decide))
      refine e_aload_n (dx D_x_count 23 rfl) rfl ?_
      refine e_getR (dx D_x_count 24 rfl) fl_RX8_60 rfl rfl ?_
      refine e_getI (dx D_x_count 25 rfl) fl_RX8_260 rfl rfl ?_
      exact e_iret (dx D_x_count 26 rfl) rfl rfl ⟨_, rfl, h⟩
    | 6, ht, c =>
      cases ht; replace h := h.2.2.2.2.2.2.2.1 (tb_eq c (by decide))
      refine e_aload_n (dx D_x_count 27 rfl) rfl ?_
      refine e_getR (dx D_x_count 28 rfl) fl_RX8_60 rfl rfl ?_
      refine e_getI (dx D_x_count 29 rfl) fl_RX8_278 rfl rfl ?_
      exact e_iret (dx D_x_count 30 rfl) rfl rfl ⟨_, rfl, h⟩
    | 7, ht, c =>
      cases ht; replace h := h.2.2.2.2.2.2.2.2.1 (tb_eq c (by decide))
      refine e_aload_n (dx D_x_count 31 rfl) rfl ?_
      refine e_getR (dx D_x_count 32 rfl) fl_RX8_10 rfl rfl ?_
      refine e_callVi (rest := []) [] (dx D_x_count 33 rfl) ln_x_count_328 rfl rfl rfl (Nat.le_of_ble_eq_true rfl) h (fun r7 g6 h => ?_)
      exact e_iret (dx D_x_count 34 rfl) rfl rfl ⟨_, rfl, h⟩
    | 8, ht, c =>
      cases ht; replace h := h.2.2.2.2.2.2.2.2.2 (tb_eq c (by decide))
      refine e_aload_n (dx D_x_count 35 rfl) rfl ?_
      refine e_getR (dx D_x_count 36 rfl) fl_RX8_67 rfl rfl ?_
      refine e_getI (dx D_x_count 37 rfl) fl_RX8_331 rfl rfl ?_
      exact e_iret (dx D_x_count 38 rfl) rfl rfl ⟨_, rfl, h⟩
    | n + 9, ht, c => simp at ht
abbrev Cx_mixPipes (x1 : Int64) (g : Sg) (Q : Int64 → Sg → Prop) : Prop := Cj Mx_mixPipes [.ref 0, .long x1] g Q
abbrev Hx_mixPipes_5 (x3 : Int64) (x5 : Int32) (g : Sg) (Q : Int64 → Sg → Prop) : Prop := Hj Mx_mixPipes 5 [some (.ref 0), none, none, some (.long x3), none, some (.int x5), none] [] g Q
abbrev Hx_mixPipes_20 (x3 : Int64) (x5 : Int32) (x6 : Int32) (g : Sg) (Q : Int64 → Sg → Prop) : Prop := Hj Mx_mixPipes 20 [some (.ref 0), none, none, some (.long x3), none, some (.int x5), some (.int x6)] [] g Q
set_option maxRecDepth 20000 in
theorem Vx_mixPipes {x1 : Int64} {g : Sg} {Q : Int64 → Sg → Prop} (h : Hx_mixPipes_5 x1 0 g Q) : Cx_mixPipes x1 g Q := by
  refine Cl.of 4 pl_X8 rfl ?_
  refine e_lload_n (dx D_x_mixPipes 0 rfl) rfl ?_
  refine q_lstore_n (L' := [some (.ref 0), some (.long x1), none, some (.long x1), none, none, none]) (dx D_x_mixPipes 1 rfl) (by decide) rfl ?_
  refine q_iconst (v := 0) (dx D_x_mixPipes 2 rfl) (by decide) ?_
  refine q_istore (L' := [some (.ref 0), some (.long x1), none, some (.long x1), none, some (.int 0), none]) (dx D_x_mixPipes 3 rfl) (by decide) rfl ?_
  exact Wp.mask [true, false, false, true, false, true, false] h
set_option maxRecDepth 20000 in
theorem Vx_mixPipes_5 {x3 : Int64} {x5 : Int32} {g : Sg} {Q : Int64 → Sg → Prop} (h : (((g 1 8) ≤ x5 → Q x3 g) ∧ (¬ (g 1 8) ≤ x5 → Hx_mixPipes_20 x3 x5 0 g Q))) : Hx_mixPipes_5 x3 x5 g Q := by
  refine e_iload (dx D_x_mixPipes 4 rfl) rfl ?_
  refine e_aload_n (dx D_x_mixPipes 5 rfl) rfl ?_
  refine e_getR (dx D_x_mixPipes 6 rfl) fl_RX8_10 rfl rfl ?_
  refine e_getI (dx D_x_mixPipes 7 rfl) fl_RX8_92 rfl rfl ?_
  refine e_icmp_ge (tgt := 51) (dx D_x_mixPipes 8 rfl) (by decide) (fun c => ?_) (fun c => ?_)
  · replace h := h.1 c
    refine e_lload_n (dx D_x_mixPipes 25 rfl) rfl ?_
    exact e_lret (dx D_x_mixPipes 26 rfl) rfl ⟨_, rfl, h⟩
  · replace h := h.2 c
    refine q_iconst (v := 0) (dx D_x_mixPipes 9 rfl) (by decide) ?_
    refine q_istore (L' := [some (.ref 0), none, none, some (.long x3), none, some (.int x5), some (.int 0)]) (dx D_x_mixPipes 10 rfl) (by decide) rfl ?_
    exact h
set_option maxRecDepth 20000 in
theorem Vx_mixPipes_20 {x3 : Int64} {x5 : Int32} {x6 : Int32} {g : Sg} {Q : Int64 → Sg → Prop} (h : ((4 < x6 → Hx_mixPipes_5 x3 (x5 + 1) g Q) ∧ (¬ 4 < x6 → Cx_pipe x5 x6 g (fun r2 g1 => Hx_mixPipes_20 (31 * x3 + Int32.toInt64 r2) x5 (x6 + 1) g1 Q)))) : Hx_mixPipes_20 x3 x5 x6 g Q := by
  refine e_iload (dx D_x_mixPipes 11 rfl) rfl ?_
  refine q_iconst (v := 4) (dx D_x_mixPipes 12 rfl) (by decide) ?_
  refine e_icmp_gt (tgt := 45) (dx D_x_mixPipes 13 rfl) (by decide) (fun c => ?_) (fun c => ?_)
  · replace h := h.1 c
    refine q_iinc (d := 1) (L' := [some (.ref 0), none, none, some (.long x3), none, some (.int (x5 + 1)), some (.int x6)]) (dx D_x_mixPipes 23 rfl) rfl (by decide) (by decide) rfl ?_
    refine e_goto (tgt := 5) (dx D_x_mixPipes 24 rfl) (by decide) ?_
    exact Wp.mask [true, false, false, true, false, true, false] h
  · replace h := h.2 c
    refine e_lload_n (dx D_x_mixPipes 14 rfl) rfl ?_
    refine e_aload_n (dx D_x_mixPipes 15 rfl) rfl ?_
    refine e_iload (dx D_x_mixPipes 16 rfl) rfl ?_
    refine e_iload (dx D_x_mixPipes 17 rfl) rfl ?_
    refine e_callVi (rest := [.long x3]) [.int x5, .int x6] (dx D_x_mixPipes 18 rfl) ln_x_mixPipes_386 rfl rfl rfl (Nat.le_of_ble_eq_true rfl) h (fun r2 g1 h => ?_)
    refine e_callSj (Q1 := fun r g' => (31 * x3 + Int32.toInt64 r2) = r ∧ g1 = g') (rest := []) [.long x3, .int r2] (dx D_x_mixPipes 19 rfl) ln_x_mixPipes_339 rfl rfl (Nat.le_of_ble_eq_true rfl) (Ix_mix  ⟨rfl, rfl⟩) (fun r g' hh => ?_)
    obtain ⟨rfl, rfl⟩ := hh
    refine q_lstore_n (L' := [some (.ref 0), none, none, some (.long (31 * x3 + Int32.toInt64 r2)), none, some (.int x5), some (.int x6)]) (dx D_x_mixPipes 20 rfl) (by decide) rfl ?_
    refine q_iinc (d := 1) (L' := [some (.ref 0), none, none, some (.long (31 * x3 + Int32.toInt64 r2)), none, some (.int x5), some (.int (x6 + 1))]) (dx D_x_mixPipes 21 rfl) rfl (by decide) (by decide) rfl ?_
    refine e_goto (tgt := 20) (dx D_x_mixPipes 22 rfl) (by decide) ?_
    exact h
abbrev Cx_mixWires (x1 : Int64) (g : Sg) (Q : Int64 → Sg → Prop) : Prop := Cj Mx_mixWires [.ref 0, .long x1] g Q
abbrev Hx_mixWires_5 (x3 : Int64) (x5 : Int32) (g : Sg) (Q : Int64 → Sg → Prop) : Prop := Hj Mx_mixWires 5 [some (.ref 0), none, none, some (.long x3), none, some (.int x5)] [] g Q
set_option maxRecDepth 20000 in
theorem Vx_mixWires {x1 : Int64} {g : Sg} {Q : Int64 → Sg → Prop} (h : Hx_mixWires_5 x1 0 g Q) : Cx_mixWires x1 g Q := by
  refine Cl.of 3 pl_X8 rfl ?_
  refine e_lload_n (dx D_x_mixWires 0 rfl) rfl ?_
  refine q_lstore_n (L' := [some (.ref 0), some (.long x1), none, some (.long x1), none, none]) (dx D_x_mixWires 1 rfl) (by decide) rfl ?_
  refine q_iconst (v := 0) (dx D_x_mixWires 2 rfl) (by decide) ?_
  refine q_istore (L' := [some (.ref 0), some (.long x1), none, some (.long x1), none, some (.int 0)]) (dx D_x_mixWires 3 rfl) (by decide) rfl ?_
  exact Wp.mask [true, false, false, true, false, true] h
set_option maxRecDepth 20000 in
theorem Vx_mixWires_5 {x3 : Int64} {x5 : Int32} {g : Sg} {Q : Int64 → Sg → Prop} (h : ((16 ≤ x5 → Q x3 g) ∧ (¬ 16 ≤ x5 → Cx_wire (g 11 6) x5 g (fun r2 g1 => Cx_out x5 g1 (fun r4 g3 => Cx_fails x5 g3 (fun r6 g5 => Hx_mixWires_5 (31 * (31 * (31 * x3 + Int32.toInt64 r2) + Int32.toInt64 r4) + Int32.toInt64 r6) (x5 + 1) g5 Q)))))) : Hx_mixWires_5 x3 x5 g Q := by
  refine e_iload (dx D_x_mixWires 4 rfl) rfl ?_
  refine q_bipush (v := 16) (dx D_x_mixWires 5 rfl) (by decide) ?_
  refine e_icmp_ge (tgt := 58) (dx D_x_mixWires 6 rfl) (by decide) (fun c => ?_) (fun c => ?_)
  · replace h := h.1 c
    refine e_lload_n (dx D_x_mixWires 30 rfl) rfl ?_
    exact e_lret (dx D_x_mixWires 31 rfl) rfl ⟨_, rfl, h⟩
  · replace h := h.2 c
    refine e_lload_n (dx D_x_mixWires 7 rfl) rfl ?_
    refine e_aload_n (dx D_x_mixWires 8 rfl) rfl ?_
    refine e_aload_n (dx D_x_mixWires 9 rfl) rfl ?_
    refine e_getR (dx D_x_mixWires 10 rfl) fl_RX8_30 rfl rfl ?_
    refine e_getI (dx D_x_mixWires 11 rfl) fl_RX8_153 rfl rfl ?_
    refine e_iload (dx D_x_mixWires 12 rfl) rfl ?_
    refine e_callVi (rest := [.long x3]) [.int (g 11 6), .int x5] (dx D_x_mixWires 13 rfl) ln_x_mixWires_389 rfl rfl rfl (Nat.le_of_ble_eq_true rfl) h (fun r2 g1 h => ?_)
    refine e_callSj (Q1 := fun r g' => (31 * x3 + Int32.toInt64 r2) = r ∧ g1 = g') (rest := []) [.long x3, .int r2] (dx D_x_mixWires 14 rfl) ln_x_mixWires_339 rfl rfl (Nat.le_of_ble_eq_true rfl) (Ix_mix  ⟨rfl, rfl⟩) (fun r g' hh => ?_)
    obtain ⟨rfl, rfl⟩ := hh
    refine q_lstore_n (L' := [some (.ref 0), none, none, some (.long (31 * x3 + Int32.toInt64 r2)), none, some (.int x5)]) (dx D_x_mixWires 15 rfl) (by decide) rfl ?_
    refine e_lload_n (dx D_x_mixWires 16 rfl) rfl ?_
    refine e_aload_n (dx D_x_mixWires 17 rfl) rfl ?_
    refine e_iload (dx D_x_mixWires 18 rfl) rfl ?_
    refine e_callVi (rest := [.long (31 * x3 + Int32.toInt64 r2)]) [.int x5] (dx D_x_mixWires 19 rfl) ln_x_mixWires_392 rfl rfl rfl (Nat.le_of_ble_eq_true rfl) h (fun r4 g3 h => ?_)
    refine e_callSj (Q1 := fun r g' => (31 * (31 * x3 + Int32.toInt64 r2) + Int32.toInt64 r4) = r ∧ g3 = g') (rest := []) [.long (31 * x3 + Int32.toInt64 r2), .int r4] (dx D_x_mixWires 20 rfl) ln_x_mixWires_339 rfl rfl (Nat.le_of_ble_eq_true rfl) (Ix_mix  ⟨rfl, rfl⟩) (fun r g' hh => ?_)
    obtain ⟨rfl, rfl⟩ := hh
    refine q_lstore_n (L' := [some (.ref 0), none, none, some (.long (31 * (31 * x3 + Int32.toInt64 r2) + Int32.toInt64 r4)), none, some (.int x5)]) (dx D_x_mixWires 21 rfl) (by decide) rfl ?_
    refine e_lload_n (dx D_x_mixWires 22 rfl) rfl ?_
    refine e_aload_n (dx D_x_mixWires 23 rfl) rfl ?_
    refine e_iload (dx D_x_mixWires 24 rfl) rfl ?_
    refine e_callVi (rest := [.long (31 * (31 * x3 + Int32.toInt64 r2) + Int32.toInt64 r4)]) [.int x5] (dx D_x_mixWires 25 rfl) ln_x_mixWires_395 rfl rfl rfl (Nat.le_of_ble_eq_true rfl) h (fun r6 g5 h => ?_)
    refine e_callSj (Q1 := fun r g' => (31 * (31 * (31 * x3 + Int32.toInt64 r2) + Int32.toInt64 r4) + Int32.toInt64 r6) = r ∧ g5 = g') (rest := []) [.long (31 * (31 * x3 + Int32.toInt64 r2) + Int32.toInt64 r4), .int r6] (dx D_x_mixWires 26 rfl) ln_x_mixWires_339 rfl rfl (Nat.le_of_ble_eq_true rfl) (Ix_mix  ⟨rfl, rfl⟩) (fun r g' hh => ?_)
    obtain ⟨rfl, rfl⟩ := hh
    refine q_lstore_n (L' := [some (.ref 0), none, none, some (.long (31 * (31 * (31 * x3 + Int32.toInt64 r2) + Int32.toInt64 r4) + Int32.toInt64 r6)), none, some (.int x5)]) (dx D_x_mixWires 27 rfl) (by decide) rfl ?_
    refine q_iinc (d := 1) (L' := [some (.ref 0), none, none, some (.long (31 * (31 * (31 * x3 + Int32.toInt64 r2) + Int32.toInt64 r4) + Int32.toInt64 r6)), none, some (.int (x5 + 1))]) (dx D_x_mixWires 28 rfl) rfl (by decide) (by decide) rfl ?_
    refine e_goto (tgt := 5) (dx D_x_mixWires 29 rfl) (by decide) ?_
    exact h
abbrev Cx_mixEnds (x1 : Int64) (g : Sg) (Q : Int64 → Sg → Prop) : Prop := Cj Mx_mixEnds [.ref 0, .long x1] g Q
abbrev Hx_mixEnds_5 (x3 : Int64) (x5 : Int32) (g : Sg) (Q : Int64 → Sg → Prop) : Prop := Hj Mx_mixEnds 5 [some (.ref 0), none, none, some (.long x3), none, some (.int x5)] [] g Q
set_option maxRecDepth 20000 in
theorem Vx_mixEnds {x1 : Int64} {g : Sg} {Q : Int64 → Sg → Prop} (h : Hx_mixEnds_5 x1 1 g Q) : Cx_mixEnds x1 g Q := by
  refine Cl.of 3 pl_X8 rfl ?_
  refine e_lload_n (dx D_x_mixEnds 0 rfl) rfl ?_
  refine q_lstore_n (L' := [some (.ref 0), some (.long x1), none, some (.long x1), none, none]) (dx D_x_mixEnds 1 rfl) (by decide) rfl ?_
  refine q_iconst (v := 1) (dx D_x_mixEnds 2 rfl) (by decide) ?_
  refine q_istore (L' := [some (.ref 0), some (.long x1), none, some (.long x1), none, some (.int 1)]) (dx D_x_mixEnds 3 rfl) (by decide) rfl ?_
  exact Wp.mask [true, false, false, true, false, true] h
set_option maxRecDepth 20000 in
theorem Vx_mixEnds_5 {x3 : Int64} {x5 : Int32} {g : Sg} {Q : Int64 → Sg → Prop} (h : ((8 ≤ x5 → Q x3 g) ∧ (¬ 8 ≤ x5 → Cx_shortest 0 x5 (-1) g (fun r2 g1 => Cx_most 0 x5 0 g1 (fun r4 g3 => Cx_most 0 x5 1 g3 (fun r6 g5 => Cx_heard 0 3 x5 g5 (fun r8 g7 => Hx_mixEnds_5 (31 * (31 * (31 * (31 * x3 + Int32.toInt64 r2) + Int32.toInt64 r4) + Int32.toInt64 r6) + Int32.toInt64 r8) (x5 + 1) g7 Q))))))) : Hx_mixEnds_5 x3 x5 g Q := by
  refine e_iload (dx D_x_mixEnds 4 rfl) rfl ?_
  refine q_bipush (v := 8) (dx D_x_mixEnds 5 rfl) (by decide) ?_
  refine e_icmp_ge (tgt := 70) (dx D_x_mixEnds 6 rfl) (by decide) (fun c => ?_) (fun c => ?_)
  · replace h := h.1 c
    refine e_lload_n (dx D_x_mixEnds 41 rfl) rfl ?_
    exact e_lret (dx D_x_mixEnds 42 rfl) rfl ⟨_, rfl, h⟩
  · replace h := h.2 c
    refine e_lload_n (dx D_x_mixEnds 7 rfl) rfl ?_
    refine e_aload_n (dx D_x_mixEnds 8 rfl) rfl ?_
    refine q_iconst (v := 0) (dx D_x_mixEnds 9 rfl) (by decide) ?_
    refine e_iload (dx D_x_mixEnds 10 rfl) rfl ?_
    refine q_iconst (v := (-1)) (dx D_x_mixEnds 11 rfl) (by decide) ?_
    refine e_callVi (rest := [.long x3]) [.int 0, .int x5, .int (-1)] (dx D_x_mixEnds 12 rfl) ln_x_mixEnds_398 rfl rfl rfl (Nat.le_of_ble_eq_true rfl) h (fun r2 g1 h => ?_)
    refine e_callSj (Q1 := fun r g' => (31 * x3 + Int32.toInt64 r2) = r ∧ g1 = g') (rest := []) [.long x3, .int r2] (dx D_x_mixEnds 13 rfl) ln_x_mixEnds_339 rfl rfl (Nat.le_of_ble_eq_true rfl) (Ix_mix  ⟨rfl, rfl⟩) (fun r g' hh => ?_)
    obtain ⟨rfl, rfl⟩ := hh
    refine q_lstore_n (L' := [some (.ref 0), none, none, some (.long (31 * x3 + Int32.toInt64 r2)), none, some (.int x5)]) (dx D_x_mixEnds 14 rfl) (by decide) rfl ?_
    refine e_lload_n (dx D_x_mixEnds 15 rfl) rfl ?_
    refine e_aload_n (dx D_x_mixEnds 16 rfl) rfl ?_
    refine q_iconst (v := 0) (dx D_x_mixEnds 17 rfl) (by decide) ?_
    refine e_iload (dx D_x_mixEnds 18 rfl) rfl ?_
    refine q_iconst (v := 0) (dx D_x_mixEnds 19 rfl) (by decide) ?_
    refine e_callVi (rest := [.long (31 * x3 + Int32.toInt64 r2)]) [.int 0, .int x5, .int 0] (dx D_x_mixEnds 20 rfl) ln_x_mixEnds_401 rfl rfl rfl (Nat.le_of_ble_eq_true rfl) h (fun r4 g3 h => ?_)
    refine e_callSj (Q1 := fun r g' => (31 * (31 * x3 + Int32.toInt64 r2) + Int32.toInt64 r4) = r ∧ g3 = g') (rest := []) [.long (31 * x3 + Int32.toInt64 r2), .int r4] (dx D_x_mixEnds 21 rfl) ln_x_mixEnds_339 rfl rfl (Nat.le_of_ble_eq_true rfl) (Ix_mix  ⟨rfl, rfl⟩) (fun r g' hh => ?_)
    obtain ⟨rfl, rfl⟩ := hh
    refine q_lstore_n (L' := [some (.ref 0), none, none, some (.long (31 * (31 * x3 + Int32.toInt64 r2) + Int32.toInt64 r4)), none, some (.int x5)]) (dx D_x_mixEnds 22 rfl) (by decide) rfl ?_
    refine e_lload_n (dx D_x_mixEnds 23 rfl) rfl ?_
    refine e_aload_n (dx D_x_mixEnds 24 rfl) rfl ?_
    refine q_iconst (v := 0) (dx D_x_mixEnds 25 rfl) (by decide) ?_
    refine e_iload (dx D_x_mixEnds 26 rfl) rfl ?_
    refine q_iconst (v := 1) (dx D_x_mixEnds 27 rfl) (by decide) ?_
    refine e_callVi (rest := [.long (31 * (31 * x3 + Int32.toInt64 r2) + Int32.toInt64 r4)]) [.int 0, .int x5, .int 1] (dx D_x_mixEnds 28 rfl) ln_x_mixEnds_401 rfl rfl rfl (Nat.le_of_ble_eq_true rfl) h (fun r6 g5 h => ?_)
    refine e_callSj (Q1 := fun r g' => (31 * (31 * (31 * x3 + Int32.toInt64 r2) + Int32.toInt64 r4) + Int32.toInt64 r6) = r ∧ g5 = g') (rest := []) [.long (31 * (31 * x3 + Int32.toInt64 r2) + Int32.toInt64 r4), .int r6] (dx D_x_mixEnds 29 rfl) ln_x_mixEnds_339 rfl rfl (Nat.le_of_ble_eq_true rfl) (Ix_mix  ⟨rfl, rfl⟩) (fun r g' hh => ?_)
    obtain ⟨rfl, rfl⟩ := hh
    refine q_lstore_n (L' := [some (.ref 0), none, none, some (.long (31 * (31 * (31 * x3 + Int32.toInt64 r2) + Int32.toInt64 r4) + Int32.toInt64 r6)), none, some (.int x5)]) (dx D_x_mixEnds 30 rfl) (by decide) rfl ?_
    refine e_lload_n (dx D_x_mixEnds 31 rfl) rfl ?_
    refine e_aload_n (dx D_x_mixEnds 32 rfl) rfl ?_
    refine q_iconst (v := 0) (dx D_x_mixEnds 33 rfl) (by decide) ?_
    refine q_iconst (v := 3) (dx D_x_mixEnds 34 rfl) (by decide) ?_
    refine e_iload (dx D_x_mixEnds 35 rfl) rfl ?_
    refine e_callVi (rest := [.long (31 * (31 * (31 * x3 + Int32.toInt64 r2) + Int32.toInt64 r4) + Int32.toInt64 r6)]) [.int 0, .int 3, .int x5] (dx D_x_mixEnds 36 rfl) ln_x_mixEnds_371 rfl rfl rfl (Nat.le_of_ble_eq_true rfl) h (fun r8 g7 h => ?_)
    refine e_callSj (Q1 := fun r g' => (31 * (31 * (31 * (31 * x3 + Int32.toInt64 r2) + Int32.toInt64 r4) + Int32.toInt64 r6) + Int32.toInt64 r8) = r ∧ g7 = g') (rest := []) [.long (31 * (31 * (31 * x3 + Int32.toInt64 r2) + Int32.toInt64 r4) + Int32.toInt64 r6), .int r8] (dx D_x_mixEnds 37 rfl) ln_x_mixEnds_339 rfl rfl (Nat.le_of_ble_eq_true rfl) (Ix_mix  ⟨rfl, rfl⟩) (fun r g' hh => ?_)
    obtain ⟨rfl, rfl⟩ := hh
    refine q_lstore_n (L' := [some (.ref 0), none, none, some (.long (31 * (31 * (31 * (31 * x3 + Int32.toInt64 r2) + Int32.toInt64 r4) + Int32.toInt64 r6) + Int32.toInt64 r8)), none, some (.int x5)]) (dx D_x_mixEnds 38 rfl) (by decide) rfl ?_
    refine q_iinc (d := 1) (L' := [some (.ref 0), none, none, some (.long (31 * (31 * (31 * (31 * x3 + Int32.toInt64 r2) + Int32.toInt64 r4) + Int32.toInt64 r6) + Int32.toInt64 r8)), none, some (.int (x5 + 1))]) (dx D_x_mixEnds 39 rfl) rfl (by decide) (by decide) rfl ?_
    refine e_goto (tgt := 5) (dx D_x_mixEnds 40 rfl) (by decide) ?_
    exact h
abbrev Cx_digest (g : Sg) (Q : Int64 → Sg → Prop) : Prop := Cj Mx_digest [.ref 0] g Q
abbrev Hx_digest_6 (x1 : Int64) (x3 : Int32) (g : Sg) (Q : Int64 → Sg → Prop) : Prop := Hj Mx_digest 6 [some (.ref 0), some (.long x1), none, some (.int x3)] [] g Q
set_option maxRecDepth 20000 in
theorem Vx_digest {g : Sg} {Q : Int64 → Sg → Prop} (h : Hx_digest_6 17 0 g Q) : Cx_digest g Q := by
  refine Cl.of 3 pl_X8 rfl ?_
  refine e_ldc2 (v := 17) (dx D_x_digest 0 rfl) k913 ?_
  refine q_lstore_n (L' := [some (.ref 0), some (.long 17), none, none]) (dx D_x_digest 1 rfl) (by decide) rfl ?_
  refine q_iconst (v := 0) (dx D_x_digest 2 rfl) (by decide) ?_
  refine q_istore_n (L' := [some (.ref 0), some (.long 17), none, some (.int 0)]) (dx D_x_digest 3 rfl) (by decide) rfl ?_
  exact h
set_option maxRecDepth 20000 in
theorem Vx_digest_6 {x1 : Int64} {x3 : Int32} {g : Sg} {Q : Int64 → Sg → Prop} (h : ((7 < x3 → Cx_fault g (fun r2 g1 => Cx_judged g1 (fun r4 g3 => Cx_mixPipes (31 * (31 * x1 + Int32.toInt64 r2) + Int32.toInt64 r4) g3 (fun r6 g5 => Cx_mixWires r6 g5 (fun r8 g7 => Cx_state (g7 11 6) 0 g7 (fun r10 g9 => Cx_state (g9 11 6) 1 g9 (fun r12 g11 => Cx_soonest g11 (fun r14 g13 => Cx_left 9 g13 (fun r16 g15 => Cx_burns 0 g15 (fun r18 g17 => Cx_burns 5 g17 (fun r20 g19 => Cx_mixEnds (31 * (31 * (31 * (31 * (31 * (31 * r8 + Int32.toInt64 r10) + Int32.toInt64 r12) + Int32.toInt64 r14) + Int32.toInt64 r16) + Int32.toInt64 r18) + Int32.toInt64 r20) g19 (fun r22 g21 => Cl_seek 14 g21 (fun g23 => Cx_heard 0 4 (-1) g23 (fun r25 g24 => Cx_drowsy 7 0 9 g24 (fun r27 g26 => Cx_lies g26 (fun r29 g28 => Cx_scenes (g28 11 6) g28 (fun r31 g30 => Cx_cue 0 g30 (fun r33 g32 => Q (31 * (31 * (31 * (31 * (31 * (31 * (31 * (31 * r22 + Int32.toInt64 (g23 20 3)) + Int32.toInt64 (g23 20 4)) + Int32.toInt64 (g23 20 5)) + Int32.toInt64 r25) + Int32.toInt64 r27) + Int32.toInt64 r29) + Int32.toInt64 r31) + Int32.toInt64 r33) g32)))))))))))))))))) ∧ (¬ 7 < x3 → Cx_count x3 g (fun r35 g34 => Hx_digest_6 (31 * x1 + Int32.toInt64 r35) (x3 + 1) g34 Q)))) : Hx_digest_6 x1 x3 g Q := by
  refine e_iload_n (dx D_x_digest 4 rfl) rfl ?_
  refine q_bipush (v := 7) (dx D_x_digest 5 rfl) (by decide) ?_
  refine e_icmp_gt (tgt := 28) (dx D_x_digest 6 rfl) (by decide) (fun c => ?_) (fun c => ?_)
  · replace h := h.1 c
    refine e_lload_n (dx D_x_digest 15 rfl) rfl ?_
    refine e_aload_n (dx D_x_digest 16 rfl) rfl ?_
    refine e_callVi (rest := [.long x1]) [] (dx D_x_digest 17 rfl) ln_x_digest_343 rfl rfl rfl (Nat.le_of_ble_eq_true rfl) h (fun r2 g1 h => ?_)
    refine e_callSj (Q1 := fun r g' => (31 * x1 + Int32.toInt64 r2) = r ∧ g1 = g') (rest := []) [.long x1, .int r2] (dx D_x_digest 18 rfl) ln_x_digest_339 rfl rfl (Nat.le_of_ble_eq_true rfl) (Ix_mix  ⟨rfl, rfl⟩) (fun r g' hh => ?_)
    obtain ⟨rfl, rfl⟩ := hh
    refine q_lstore_n (L' := [some (.ref 0), some (.long (31 * x1 + Int32.toInt64 r2)), none, some (.int x3)]) (dx D_x_digest 19 rfl) (by decide) rfl ?_
    refine e_lload_n (dx D_x_digest 20 rfl) rfl ?_
    refine e_aload_n (dx D_x_digest 21 rfl) rfl ?_
    refine e_callVi (rest := [.long (31 * x1 + Int32.toInt64 r2)]) [] (dx D_x_digest 22 rfl) ln_x_digest_346 rfl rfl rfl (Nat.le_of_ble_eq_true rfl) h (fun r4 g3 h => ?_)
    refine e_callSj (Q1 := fun r g' => (31 * (31 * x1 + Int32.toInt64 r2) + Int32.toInt64 r4) = r ∧ g3 = g') (rest := []) [.long (31 * x1 + Int32.toInt64 r2), .int r4] (dx D_x_digest 23 rfl) ln_x_digest_339 rfl rfl (Nat.le_of_ble_eq_true rfl) (Ix_mix  ⟨rfl, rfl⟩) (fun r g' hh => ?_)
    obtain ⟨rfl, rfl⟩ := hh
    refine q_lstore_n (L' := [some (.ref 0), some (.long (31 * (31 * x1 + Int32.toInt64 r2) + Int32.toInt64 r4)), none, some (.int x3)]) (dx D_x_digest 24 rfl) (by decide) rfl ?_
    refine e_aload_n (dx D_x_digest 25 rfl) rfl ?_
    refine e_lload_n (dx D_x_digest 26 rfl) rfl ?_
    refine e_callVj (rest := []) [.long (31 * (31 * x1 + Int32.toInt64 r2) + Int32.toInt64 r4)] (dx D_x_digest 27 rfl) ln_x_digest_349 rfl rfl rfl (Nat.le_of_ble_eq_true rfl) h (fun r6 g5 h => ?_)
    refine q_lstore_n (L' := [some (.ref 0), some (.long r6), none, some (.int x3)]) (dx D_x_digest 28 rfl) (by decide) rfl ?_
    refine e_aload_n (dx D_x_digest 29 rfl) rfl ?_
    refine e_lload_n (dx D_x_digest 30 rfl) rfl ?_
    refine e_callVj (rest := []) [.long r6] (dx D_x_digest 31 rfl) ln_x_digest_353 rfl rfl rfl (Nat.le_of_ble_eq_true rfl) h (fun r8 g7 h => ?_)
    refine q_lstore_n (L' := [some (.ref 0), some (.long r8), none, some (.int x3)]) (dx D_x_digest 32 rfl) (by decide) rfl ?_
    refine e_lload_n (dx D_x_digest 33 rfl) rfl ?_
    refine e_aload_n (dx D_x_digest 34 rfl) rfl ?_
    refine e_aload_n (dx D_x_digest 35 rfl) rfl ?_
    refine e_getR (dx D_x_digest 36 rfl) fl_RX8_30 rfl rfl ?_
    refine e_getI (dx D_x_digest 37 rfl) fl_RX8_153 rfl rfl ?_
    refine q_iconst (v := 0) (dx D_x_digest 38 rfl) (by decide) ?_
    refine e_callVi (rest := [.long r8]) [.int (g7 11 6), .int 0] (dx D_x_digest 39 rfl) ln_x_digest_356 rfl rfl rfl (Nat.le_of_ble_eq_true rfl) h (fun r10 g9 h => ?_)
    refine e_callSj (Q1 := fun r g' => (31 * r8 + Int32.toInt64 r10) = r ∧ g9 = g') (rest := []) [.long r8, .int r10] (dx D_x_digest 40 rfl) ln_x_digest_339 rfl rfl (Nat.le_of_ble_eq_true rfl) (Ix_mix  ⟨rfl, rfl⟩) (fun r g' hh => ?_)
    obtain ⟨rfl, rfl⟩ := hh
    refine q_lstore_n (L' := [some (.ref 0), some (.long (31 * r8 + Int32.toInt64 r10)), none, some (.int x3)]) (dx D_x_digest 41 rfl) (by decide) rfl ?_
    refine e_lload_n (dx D_x_digest 42 rfl) rfl ?_
    refine e_aload_n (dx D_x_digest 43 rfl) rfl ?_
    refine e_aload_n (dx D_x_digest 44 rfl) rfl ?_
    refine e_getR (dx D_x_digest 45 rfl) fl_RX8_30 rfl rfl ?_
    refine e_getI (dx D_x_digest 46 rfl) fl_RX8_153 rfl rfl ?_
    refine q_iconst (v := 1) (dx D_x_digest 47 rfl) (by decide) ?_
    refine e_callVi (rest := [.long (31 * r8 + Int32.toInt64 r10)]) [.int (g9 11 6), .int 1] (dx D_x_digest 48 rfl) ln_x_digest_356 rfl rfl rfl (Nat.le_of_ble_eq_true rfl) h (fun r12 g11 h => ?_)
    refine e_callSj (Q1 := fun r g' => (31 * (31 * r8 + Int32.toInt64 r10) + Int32.toInt64 r12) = r ∧ g11 = g') (rest := []) [.long (31 * r8 + Int32.toInt64 r10), .int r12] (dx D_x_digest 49 rfl) ln_x_digest_339 rfl rfl (Nat.le_of_ble_eq_true rfl) (Ix_mix  ⟨rfl, rfl⟩) (fun r g' hh => ?_)
    obtain ⟨rfl, rfl⟩ := hh
    refine q_lstore_n (L' := [some (.ref 0), some (.long (31 * (31 * r8 + Int32.toInt64 r10) + Int32.toInt64 r12)), none, some (.int x3)]) (dx D_x_digest 50 rfl) (by decide) rfl ?_
    refine e_lload_n (dx D_x_digest 51 rfl) rfl ?_
    refine e_aload_n (dx D_x_digest 52 rfl) rfl ?_
    refine e_callVi (rest := [.long (31 * (31 * r8 + Int32.toInt64 r10) + Int32.toInt64 r12)]) [] (dx D_x_digest 53 rfl) ln_x_digest_359 rfl rfl rfl (Nat.le_of_ble_eq_true rfl) h (fun r14 g13 h => ?_)
    refine e_callSj (Q1 := fun r g' => (31 * (31 * (31 * r8 + Int32.toInt64 r10) + Int32.toInt64 r12) + Int32.toInt64 r14) = r ∧ g13 = g') (rest := []) [.long (31 * (31 * r8 + Int32.toInt64 r10) + Int32.toInt64 r12), .int r14] (dx D_x_digest 54 rfl) ln_x_digest_339 rfl rfl (Nat.le_of_ble_eq_true rfl) (Ix_mix  ⟨rfl, rfl⟩) (fun r g' hh => ?_)
    obtain ⟨rfl, rfl⟩ := hh
    refine q_lstore_n (L' := [some (.ref 0), some (.long (31 * (31 * (31 * r8 + Int32.toInt64 r10) + Int32.toInt64 r12) + Int32.toInt64 r14)), none, some (.int x3)]) (dx D_x_digest 55 rfl) (by decide) rfl ?_
    refine e_lload_n (dx D_x_digest 56 rfl) rfl ?_
    refine e_aload_n (dx D_x_digest 57 rfl) rfl ?_
    refine q_bipush (v := 9) (dx D_x_digest 58 rfl) (by decide) ?_
    refine e_callVi (rest := [.long (31 * (31 * (31 * r8 + Int32.toInt64 r10) + Int32.toInt64 r12) + Int32.toInt64 r14)]) [.int 9] (dx D_x_digest 59 rfl) ln_x_digest_362 rfl rfl rfl (Nat.le_of_ble_eq_true rfl) h (fun r16 g15 h => ?_)
    refine e_callSj (Q1 := fun r g' => (31 * (31 * (31 * (31 * r8 + Int32.toInt64 r10) + Int32.toInt64 r12) + Int32.toInt64 r14) + Int32.toInt64 r16) = r ∧ g15 = g') (rest := []) [.long (31 * (31 * (31 * r8 + Int32.toInt64 r10) + Int32.toInt64 r12) + Int32.toInt64 r14), .int r16] (dx D_x_digest 60 rfl) ln_x_digest_339 rfl rfl (Nat.le_of_ble_eq_true rfl) (Ix_mix  ⟨rfl, rfl⟩) (fun r g' hh => ?_)
    obtain ⟨rfl, rfl⟩ := hh
    refine q_lstore_n (L' := [some (.ref 0), some (.long (31 * (31 * (31 * (31 * r8 + Int32.toInt64 r10) + Int32.toInt64 r12) + Int32.toInt64 r14) + Int32.toInt64 r16)), none, some (.int x3)]) (dx D_x_digest 61 rfl) (by decide) rfl ?_
    refine e_lload_n (dx D_x_digest 62 rfl) rfl ?_
    refine e_aload_n (dx D_x_digest 63 rfl) rfl ?_
    refine q_iconst (v := 0) (dx D_x_digest 64 rfl) (by decide) ?_
    refine e_callVi (rest := [.long (31 * (31 * (31 * (31 * r8 + Int32.toInt64 r10) + Int32.toInt64 r12) + Int32.toInt64 r14) + Int32.toInt64 r16)]) [.int 0] (dx D_x_digest 65 rfl) ln_x_digest_365 rfl rfl rfl (Nat.le_of_ble_eq_true rfl) h (fun r18 g17 h => ?_)
    refine e_callSj (Q1 := fun r g' => (31 * (31 * (31 * (31 * (31 * r8 + Int32.toInt64 r10) + Int32.toInt64 r12) + Int32.toInt64 r14) + Int32.toInt64 r16) + Int32.toInt64 r18) = r ∧ g17 = g') (rest := []) [.long (31 * (31 * (31 * (31 * r8 + Int32.toInt64 r10) + Int32.toInt64 r12) + Int32.toInt64 r14) + Int32.toInt64 r16), .int r18] (dx D_x_digest 66 rfl) ln_x_digest_339 rfl rfl (Nat.le_of_ble_eq_true rfl) (Ix_mix  ⟨rfl, rfl⟩) (fun r g' hh => ?_)
    obtain ⟨rfl, rfl⟩ := hh
    refine q_lstore_n (L' := [some (.ref 0), some (.long (31 * (31 * (31 * (31 * (31 * r8 + Int32.toInt64 r10) + Int32.toInt64 r12) + Int32.toInt64 r14) + Int32.toInt64 r16) + Int32.toInt64 r18)), none, some (.int x3)]) (dx D_x_digest 67 rfl) (by decide) rfl ?_
    refine e_lload_n (dx D_x_digest 68 rfl) rfl ?_
    refine e_aload_n (dx D_x_digest 69 rfl) rfl ?_
    refine q_iconst (v := 5) (dx D_x_digest 70 rfl) (by decide) ?_
    refine e_callVi (rest := [.long (31 * (31 * (31 * (31 * (31 * r8 + Int32.toInt64 r10) + Int32.toInt64 r12) + Int32.toInt64 r14) + Int32.toInt64 r16) + Int32.toInt64 r18)]) [.int 5] (dx D_x_digest 71 rfl) ln_x_digest_365 rfl rfl rfl (Nat.le_of_ble_eq_true rfl) h (fun r20 g19 h => ?_)
    refine e_callSj (Q1 := fun r g' => (31 * (31 * (31 * (31 * (31 * (31 * r8 + Int32.toInt64 r10) + Int32.toInt64 r12) + Int32.toInt64 r14) + Int32.toInt64 r16) + Int32.toInt64 r18) + Int32.toInt64 r20) = r ∧ g19 = g') (rest := []) [.long (31 * (31 * (31 * (31 * (31 * r8 + Int32.toInt64 r10) + Int32.toInt64 r12) + Int32.toInt64 r14) + Int32.toInt64 r16) + Int32.toInt64 r18), .int r20] (dx D_x_digest 72 rfl) ln_x_digest_339 rfl rfl (Nat.le_of_ble_eq_true rfl) (Ix_mix  ⟨rfl, rfl⟩) (fun r g' hh => ?_)
    obtain ⟨rfl, rfl⟩ := hh
    refine q_lstore_n (L' := [some (.ref 0), some (.long (31 * (31 * (31 * (31 * (31 * (31 * r8 + Int32.toInt64 r10) + Int32.toInt64 r12) + Int32.toInt64 r14) + Int32.toInt64 r16) + Int32.toInt64 r18) + Int32.toInt64 r20)), none, some (.int x3)]) (dx D_x_digest 73 rfl) (by decide) rfl ?_
    refine e_aload_n (dx D_x_digest 74 rfl) rfl ?_
    refine e_lload_n (dx D_x_digest 75 rfl) rfl ?_
    refine e_callVj (rest := []) [.long (31 * (31 * (31 * (31 * (31 * (31 * r8 + Int32.toInt64 r10) + Int32.toInt64 r12) + Int32.toInt64 r14) + Int32.toInt64 r16) + Int32.toInt64 r18) + Int32.toInt64 r20)] (dx D_x_digest 76 rfl) ln_x_digest_368 rfl rfl rfl (Nat.le_of_ble_eq_true rfl) h (fun r22 g21 h => ?_)
    refine q_lstore_n (L' := [some (.ref 0), some (.long r22), none, some (.int x3)]) (dx D_x_digest 77 rfl) (by decide) rfl ?_
    refine e_aload_n (dx D_x_digest 78 rfl) rfl ?_
    refine e_getR (dx D_x_digest 79 rfl) fl_RX8_46 rfl rfl ?_
    refine q_bipush (v := 14) (dx D_x_digest 80 rfl) (by decide) ?_
    refine e_callVv (rest := []) [.int 14] (dx D_x_digest 81 rfl) ln_x_digest_220 rfl rfl rfl (Nat.le_of_ble_eq_true rfl) h (fun g23 h => ?_)
    refine e_lload_n (dx D_x_digest 82 rfl) rfl ?_
    refine e_aload_n (dx D_x_digest 83 rfl) rfl ?_
    refine e_getR (dx D_x_digest 84 rfl) fl_RX8_46 rfl rfl ?_
    refine e_getI (dx D_x_digest 85 rfl) fl_RX8_223 rfl rfl ?_
    refine e_callSj (Q1 := fun r g' => (31 * r22 + Int32.toInt64 (g23 20 3)) = r ∧ g23 = g') (rest := []) [.long r22, .int (g23 20 3)] (dx D_x_digest 86 rfl) ln_x_digest_339 rfl rfl (Nat.le_of_ble_eq_true rfl) (Ix_mix  ⟨rfl, rfl⟩) (fun r g' hh => ?_)
    obtain ⟨rfl, rfl⟩ := hh
    refine q_lstore_n (L' := [some (.ref 0), some (.long (31 * r22 + Int32.toInt64 (g23 20 3))), none, some (.int x3)]) (dx D_x_digest 87 rfl) (by decide) rfl ?_
    refine e_lload_n (dx D_x_digest 88 rfl) rfl ?_
    refine e_aload_n (dx D_x_digest 89 rfl) rfl ?_
    refine e_getR (dx D_x_digest 90 rfl) fl_RX8_46 rfl rfl ?_
    refine e_getI (dx D_x_digest 91 rfl) fl_RX8_226 rfl rfl ?_
    refine e_callSj (Q1 := fun r g' => (31 * (31 * r22 + Int32.toInt64 (g23 20 3)) + Int32.toInt64 (g23 20 4)) = r ∧ g23 = g') (rest := []) [.long (31 * r22 + Int32.toInt64 (g23 20 3)), .int (g23 20 4)] (dx D_x_digest 92 rfl) ln_x_digest_339 rfl rfl (Nat.le_of_ble_eq_true rfl) (Ix_mix  ⟨rfl, rfl⟩) (fun r g' hh => ?_)
    obtain ⟨rfl, rfl⟩ := hh
    refine q_lstore_n (L' := [some (.ref 0), some (.long (31 * (31 * r22 + Int32.toInt64 (g23 20 3)) + Int32.toInt64 (g23 20 4))), none, some (.int x3)]) (dx D_x_digest 93 rfl) (by decide) rfl ?_
    refine e_lload_n (dx D_x_digest 94 rfl) rfl ?_
    refine e_aload_n (dx D_x_digest 95 rfl) rfl ?_
    refine e_getR (dx D_x_digest 96 rfl) fl_RX8_46 rfl rfl ?_
    refine e_getI (dx D_x_digest 97 rfl) fl_RX8_229 rfl rfl ?_
    refine e_callSj (Q1 := fun r g' => (31 * (31 * (31 * r22 + Int32.toInt64 (g23 20 3)) + Int32.toInt64 (g23 20 4)) + Int32.toInt64 (g23 20 5)) = r ∧ g23 = g') (rest := []) [.long (31 * (31 * r22 + Int32.toInt64 (g23 20 3)) + Int32.toInt64 (g23 20 4)), .int (g23 20 5)] (dx D_x_digest 98 rfl) ln_x_digest_339 rfl rfl (Nat.le_of_ble_eq_true rfl) (Ix_mix  ⟨rfl, rfl⟩) (fun r g' hh => ?_)
    obtain ⟨rfl, rfl⟩ := hh
    refine q_lstore_n (L' := [some (.ref 0), some (.long (31 * (31 * (31 * r22 + Int32.toInt64 (g23 20 3)) + Int32.toInt64 (g23 20 4)) + Int32.toInt64 (g23 20 5))), none, some (.int x3)]) (dx D_x_digest 99 rfl) (by decide) rfl ?_
    refine e_lload_n (dx D_x_digest 100 rfl) rfl ?_
    refine e_aload_n (dx D_x_digest 101 rfl) rfl ?_
    refine q_iconst (v := 0) (dx D_x_digest 102 rfl) (by decide) ?_
    refine q_iconst (v := 4) (dx D_x_digest 103 rfl) (by decide) ?_
    refine q_iconst (v := (-1)) (dx D_x_digest 104 rfl) (by decide) ?_
    refine e_callVi (rest := [.long (31 * (31 * (31 * r22 + Int32.toInt64 (g23 20 3)) + Int32.toInt64 (g23 20 4)) + Int32.toInt64 (g23 20 5))]) [.int 0, .int 4, .int (-1)] (dx D_x_digest 105 rfl) ln_x_digest_371 rfl rfl rfl (Nat.le_of_ble_eq_true rfl) h (fun r25 g24 h => ?_)
    refine e_callSj (Q1 := fun r g' => (31 * (31 * (31 * (31 * r22 + Int32.toInt64 (g23 20 3)) + Int32.toInt64 (g23 20 4)) + Int32.toInt64 (g23 20 5)) + Int32.toInt64 r25) = r ∧ g24 = g') (rest := []) [.long (31 * (31 * (31 * r22 + Int32.toInt64 (g23 20 3)) + Int32.toInt64 (g23 20 4)) + Int32.toInt64 (g23 20 5)), .int r25] (dx D_x_digest 106 rfl) ln_x_digest_339 rfl rfl (Nat.le_of_ble_eq_true rfl) (Ix_mix  ⟨rfl, rfl⟩) (fun r g' hh => ?_)
    obtain ⟨rfl, rfl⟩ := hh
    refine q_lstore_n (L' := [some (.ref 0), some (.long (31 * (31 * (31 * (31 * r22 + Int32.toInt64 (g23 20 3)) + Int32.toInt64 (g23 20 4)) + Int32.toInt64 (g23 20 5)) + Int32.toInt64 r25)), none, some (.int x3)]) (dx D_x_digest 107 rfl) (by decide) rfl ?_
    refine e_lload_n (dx D_x_digest 108 rfl) rfl ?_
    refine e_aload_n (dx D_x_digest 109 rfl) rfl ?_
    refine q_bipush (v := 7) (dx D_x_digest 110 rfl) (by decide) ?_
    refine q_iconst (v := 0) (dx D_x_digest 111 rfl) (by decide) ?_
    refine q_bipush (v := 9) (dx D_x_digest 112 rfl) (by decide) ?_
    refine e_callVi (rest := [.long (31 * (31 * (31 * (31 * r22 + Int32.toInt64 (g23 20 3)) + Int32.toInt64 (g23 20 4)) + Int32.toInt64 (g23 20 5)) + Int32.toInt64 r25)]) [.int 7, .int 0, .int 9] (dx D_x_digest 113 rfl) ln_x_digest_374 rfl rfl rfl (Nat.le_of_ble_eq_true rfl) h (fun r27 g26 h => ?_)
    refine e_callSj (Q1 := fun r g' => (31 * (31 * (31 * (31 * (31 * r22 + Int32.toInt64 (g23 20 3)) + Int32.toInt64 (g23 20 4)) + Int32.toInt64 (g23 20 5)) + Int32.toInt64 r25) + Int32.toInt64 r27) = r ∧ g26 = g') (rest := []) [.long (31 * (31 * (31 * (31 * r22 + Int32.toInt64 (g23 20 3)) + Int32.toInt64 (g23 20 4)) + Int32.toInt64 (g23 20 5)) + Int32.toInt64 r25), .int r27] (dx D_x_digest 114 rfl) ln_x_digest_339 rfl rfl (Nat.le_of_ble_eq_true rfl) (Ix_mix  ⟨rfl, rfl⟩) (fun r g' hh => ?_)
    obtain ⟨rfl, rfl⟩ := hh
    refine q_lstore_n (L' := [some (.ref 0), some (.long (31 * (31 * (31 * (31 * (31 * r22 + Int32.toInt64 (g23 20 3)) + Int32.toInt64 (g23 20 4)) + Int32.toInt64 (g23 20 5)) + Int32.toInt64 r25) + Int32.toInt64 r27)), none, some (.int x3)]) (dx D_x_digest 115 rfl) (by decide) rfl ?_
    refine e_lload_n (dx D_x_digest 116 rfl) rfl ?_
    refine e_aload_n (dx D_x_digest 117 rfl) rfl ?_
    refine e_callVi (rest := [.long (31 * (31 * (31 * (31 * (31 * r22 + Int32.toInt64 (g23 20 3)) + Int32.toInt64 (g23 20 4)) + Int32.toInt64 (g23 20 5)) + Int32.toInt64 r25) + Int32.toInt64 r27)]) [] (dx D_x_digest 118 rfl) ln_x_digest_377 rfl rfl rfl (Nat.le_of_ble_eq_true rfl) h (fun r29 g28 h => ?_)
    refine e_callSj (Q1 := fun r g' => (31 * (31 * (31 * (31 * (31 * (31 * r22 + Int32.toInt64 (g23 20 3)) + Int32.toInt64 (g23 20 4)) + Int32.toInt64 (g23 20 5)) + Int32.toInt64 r25) + Int32.toInt64 r27) + Int32.toInt64 r29) = r ∧ g28 = g') (rest := []) [.long (31 * (31 * (31 * (31 * (31 * r22 + Int32.toInt64 (g23 20 3)) + Int32.toInt64 (g23 20 4)) + Int32.toInt64 (g23 20 5)) + Int32.toInt64 r25) + Int32.toInt64 r27), .int r29] (dx D_x_digest 119 rfl) ln_x_digest_339 rfl rfl (Nat.le_of_ble_eq_true rfl) (Ix_mix  ⟨rfl, rfl⟩) (fun r g' hh => ?_)
    obtain ⟨rfl, rfl⟩ := hh
    refine q_lstore_n (L' := [some (.ref 0), some (.long (31 * (31 * (31 * (31 * (31 * (31 * r22 + Int32.toInt64 (g23 20 3)) + Int32.toInt64 (g23 20 4)) + Int32.toInt64 (g23 20 5)) + Int32.toInt64 r25) + Int32.toInt64 r27) + Int32.toInt64 r29)), none, some (.int x3)]) (dx D_x_digest 120 rfl) (by decide) rfl ?_
    refine e_lload_n (dx D_x_digest 121 rfl) rfl ?_
    refine e_aload_n (dx D_x_digest 122 rfl) rfl ?_
    refine e_aload_n (dx D_x_digest 123 rfl) rfl ?_
    refine e_getR (dx D_x_digest 124 rfl) fl_RX8_30 rfl rfl ?_
    refine e_getI (dx D_x_digest 125 rfl) fl_RX8_153 rfl rfl ?_
    refine e_callVi (rest := [.long (31 * (31 * (31 * (31 * (31 * (31 * r22 + Int32.toInt64 (g23 20 3)) + Int32.toInt64 (g23 20 4)) + Int32.toInt64 (g23 20 5)) + Int32.toInt64 r25) + Int32.toInt64 r27) + Int32.toInt64 r29)]) [.int (g28 11 6)] (dx D_x_digest 126 rfl) ln_x_digest_380 rfl rfl rfl (Nat.le_of_ble_eq_true rfl) h (fun r31 g30 h => ?_)
    refine e_callSj (Q1 := fun r g' => (31 * (31 * (31 * (31 * (31 * (31 * (31 * r22 + Int32.toInt64 (g23 20 3)) + Int32.toInt64 (g23 20 4)) + Int32.toInt64 (g23 20 5)) + Int32.toInt64 r25) + Int32.toInt64 r27) + Int32.toInt64 r29) + Int32.toInt64 r31) = r ∧ g30 = g') (rest := []) [.long (31 * (31 * (31 * (31 * (31 * (31 * r22 + Int32.toInt64 (g23 20 3)) + Int32.toInt64 (g23 20 4)) + Int32.toInt64 (g23 20 5)) + Int32.toInt64 r25) + Int32.toInt64 r27) + Int32.toInt64 r29), .int r31] (dx D_x_digest 127 rfl) ln_x_digest_339 rfl rfl (Nat.le_of_ble_eq_true rfl) (Ix_mix  ⟨rfl, rfl⟩) (fun r g' hh => ?_)
    obtain ⟨rfl, rfl⟩ := hh
    refine q_lstore_n (L' := [some (.ref 0), some (.long (31 * (31 * (31 * (31 * (31 * (31 * (31 * r22 + Int32.toInt64 (g23 20 3)) + Int32.toInt64 (g23 20 4)) + Int32.toInt64 (g23 20 5)) + Int32.toInt64 r25) + Int32.toInt64 r27) + Int32.toInt64 r29) + Int32.toInt64 r31)), none, some (.int x3)]) (dx D_x_digest 128 rfl) (by decide) rfl ?_
    refine e_lload_n (dx D_x_digest 129 rfl) rfl ?_
    refine e_aload_n (dx D_x_digest 130 rfl) rfl ?_
    refine q_iconst (v := 0) (dx D_x_digest 131 rfl) (by decide) ?_
    refine e_callVi (rest := [.long (31 * (31 * (31 * (31 * (31 * (31 * (31 * r22 + Int32.toInt64 (g23 20 3)) + Int32.toInt64 (g23 20 4)) + Int32.toInt64 (g23 20 5)) + Int32.toInt64 r25) + Int32.toInt64 r27) + Int32.toInt64 r29) + Int32.toInt64 r31)]) [.int 0] (dx D_x_digest 132 rfl) ln_x_digest_383 rfl rfl rfl (Nat.le_of_ble_eq_true rfl) h (fun r33 g32 h => ?_)
    refine e_callSj (Q1 := fun r g' => (31 * (31 * (31 * (31 * (31 * (31 * (31 * (31 * r22 + Int32.toInt64 (g23 20 3)) + Int32.toInt64 (g23 20 4)) + Int32.toInt64 (g23 20 5)) + Int32.toInt64 r25) + Int32.toInt64 r27) + Int32.toInt64 r29) + Int32.toInt64 r31) + Int32.toInt64 r33) = r ∧ g32 = g') (rest := []) [.long (31 * (31 * (31 * (31 * (31 * (31 * (31 * r22 + Int32.toInt64 (g23 20 3)) + Int32.toInt64 (g23 20 4)) + Int32.toInt64 (g23 20 5)) + Int32.toInt64 r25) + Int32.toInt64 r27) + Int32.toInt64 r29) + Int32.toInt64 r31), .int r33] (dx D_x_digest 133 rfl) ln_x_digest_339 rfl rfl (Nat.le_of_ble_eq_true rfl) (Ix_mix  ⟨rfl, rfl⟩) (fun r g' hh => ?_)
    obtain ⟨rfl, rfl⟩ := hh
    exact e_lret (dx D_x_digest 134 rfl) rfl ⟨_, rfl, h⟩
  · replace h := h.2 c
    refine e_lload_n (dx D_x_digest 7 rfl) rfl ?_
    refine e_aload_n (dx D_x_digest 8 rfl) rfl ?_
    refine e_iload_n (dx D_x_digest 9 rfl) rfl ?_
    refine e_callVi (rest := [.long x1]) [.int x3] (dx D_x_digest 10 rfl) ln_x_digest_336 rfl rfl rfl (Nat.le_of_ble_eq_true rfl) h (fun r35 g34 h => ?_)
    refine e_callSj (Q1 := fun r g' => (31 * x1 + Int32.toInt64 r35) = r ∧ g34 = g') (rest := []) [.long x1, .int r35] (dx D_x_digest 11 rfl) ln_x_digest_339 rfl rfl (Nat.le_of_ble_eq_true rfl) (Ix_mix  ⟨rfl, rfl⟩) (fun r g' hh => ?_)
    obtain ⟨rfl, rfl⟩ := hh
    refine q_lstore_n (L' := [some (.ref 0), some (.long (31 * x1 + Int32.toInt64 r35)), none, some (.int x3)]) (dx D_x_digest 12 rfl) (by decide) rfl ?_
    refine q_iinc (d := 1) (L' := [some (.ref 0), some (.long (31 * x1 + Int32.toInt64 r35)), none, some (.int (x3 + 1))]) (dx D_x_digest 13 rfl) rfl (by decide) (by decide) rfl ?_
    refine e_goto (tgt := 6) (dx D_x_digest 14 rfl) (by decide) ?_
    exact h
