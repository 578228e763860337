abbrev Cm_ones (x0 : Int32) (g : Sg) (Q : Int32 → Sg → Prop) : Prop := Ci Mm_ones [.int x0] g Q
abbrev Hm_ones_4 (x1 : Int32) (x2 : Int32) (g : Sg) (Q : Int32 → Sg → Prop) : Prop := Hi Mm_ones 4 [none, some (.int x1), some (.int x2)] [] g Q
set_option maxRecDepth 20000 in
theorem Vm_ones {x0 : Int32} {g : Sg} {Q : Int32 → Sg → Prop} (h : Hm_ones_4 0 x0 g Q) : Cm_ones x0 g Q := by
  refine Cl.of 2 pl_X9 rfl ?_
  refine q_iconst (v := 0) (dx D_m_ones 0 rfl) (by decide) ?_
  refine q_istore_n (L' := [some (.int x0), some (.int 0), none]) (dx D_m_ones 1 rfl) (by decide) rfl ?_
  refine e_iload_n (dx D_m_ones 2 rfl) rfl ?_
  refine q_istore_n (L' := [some (.int x0), some (.int 0), some (.int x0)]) (dx D_m_ones 3 rfl) (by decide) rfl ?_
  exact Wp.mask [false, true, true] h
set_option maxRecDepth 20000 in
theorem Vm_ones_4 {x1 : Int32} {x2 : Int32} {g : Sg} {Q : Int32 → Sg → Prop} (h : ((x2 = 0 → Q x1 g) ∧ (¬ x2 = 0 → Hm_ones_4 (x1 + 1) (x2 &&& (x2 - 1)) g Q))) : Hm_ones_4 x1 x2 g Q := by
  refine e_iload_n (dx D_m_ones 4 rfl) rfl ?_
  refine e_if_eq (tgt := 20) (dx D_m_ones 5 rfl) (by decide) (fun c => ?_) (fun c => ?_)
  · replace h := h.1 c
    refine e_iload_n (dx D_m_ones 14 rfl) rfl ?_
    exact e_iret (dx D_m_ones 15 rfl) rfl rfl ⟨_, rfl, h⟩
  · replace h := h.2 c
    refine q_iinc (d := 1) (L' := [none, some (.int (x1 + 1)), some (.int x2)]) (dx D_m_ones 6 rfl) rfl (by decide) (by decide) rfl ?_
    refine e_iload_n (dx D_m_ones 7 rfl) rfl ?_
    refine e_iload_n (dx D_m_ones 8 rfl) rfl ?_
    refine q_iconst (v := 1) (dx D_m_ones 9 rfl) (by decide) ?_
    refine e_isub (dx D_m_ones 10 rfl) ?_
    refine e_iand (dx D_m_ones 11 rfl) ?_
    refine q_istore_n (L' := [none, some (.int (x1 + 1)), some (.int (x2 &&& (x2 - 1)))]) (dx D_m_ones 12 rfl) (by decide) rfl ?_
    refine e_goto (tgt := 4) (dx D_m_ones 13 rfl) (by decide) ?_
    exact h
abbrev Cm_sheet (x1 : Int32) (x2 : Int32) (x3 : Int32) (g : Sg) (Q : Int32 → Sg → Prop) : Prop := Ci Mm_sheet [.ref 34, .int x1, .int x2, .int x3] g Q
abbrev Hm_sheet_55 (x1 : Int32) (x3 : Int32) (x4 : Int32) (g : Sg) (Q : Int32 → Sg → Prop) : Prop := Hi Mm_sheet 55 [some (.ref 34), some (.int x1), none, some (.int x3), some (.int x4)] [] g Q
set_option maxRecDepth 20000 in
theorem Vm_sheet {x1 : Int32} {x2 : Int32} {x3 : Int32} {g : Sg} {Q : Int32 → Sg → Prop} (h : (((isS x1) → (((0 ≤ x2 ∧ x2 ≤ 2) → ((x3 ≤ 60 → ((0 ≤ x3 → vp_in x1 4 ∧ vp_in x1 4 ∧ Hm_sheet_55 x1 x3 0 (sgU (sgU g 35 (x1).toNatClampNeg x2) 36 (x1).toNatClampNeg x3) Q) ∧ (¬ 0 ≤ x3 → Q ((-10) - 5) (sgU g 34 4 5)))) ∧ (¬ x3 ≤ 60 → Q (-2) g))) ∧ (¬ (0 ≤ x2 ∧ x2 ≤ 2) → Q (-2) g))) ∧ (¬ (isS x1) → Q (-2) g))) : Cm_sheet x1 x2 x3 g Q := by
  refine Cl.of 1 pl_X9 rfl ?_
  refine e_iload_n (dx D_m_sheet 0 rfl) rfl ?_
  refine e_callSi (Q1 := fun r g' => bP (isS x1) = r ∧ g = g') (rest := []) [.int x1] (dx D_m_sheet 1 rfl) ln_m_sheet_80 rfl rfl (Nat.le_of_ble_eq_true rfl) (Im_isSheet  ⟨rfl, rfl⟩) (fun r g' hh => ?_)
  obtain ⟨rfl, rfl⟩ := hh
  refine e_if_eq (tgt := 25) (dx D_m_sheet 2 rfl) (by decide) (fun c => ?_) (fun c => ?_)
  · replace h := h.2 (bP_z c)
    refine q_bipush (v := (-2)) (dx D_m_sheet 12 rfl) (by decide) ?_
    exact e_iret (dx D_m_sheet 13 rfl) rfl rfl ⟨_, rfl, h⟩
  · replace h := h.1 (bP_n c)
    refine e_iload_n (dx D_m_sheet 3 rfl) rfl ?_
    refine e_i2l (dx D_m_sheet 4 rfl) ?_
    refine q_lconst (v := 0) (dx D_m_sheet 5 rfl) (by decide) ?_
    refine e_ldc2 (v := 2) (dx D_m_sheet 6 rfl) k1056 ?_
    refine e_callSi (Q1 := fun r g' => bP (0 ≤ x2 ∧ x2 ≤ 2) = r ∧ g = g') (rest := []) [.long (Int32.toInt64 x2), .long 0, .long 2] (dx D_m_sheet 7 rfl) ln_m_sheet_70 rfl rfl (Nat.le_of_ble_eq_true rfl) (Im_in  ⟨(in32 (a := x2) (b := 0) (c := 2) rfl (by decide) (by decide)).symm, rfl⟩) (fun r g' hh => ?_)
    obtain ⟨rfl, rfl⟩ := hh
    refine e_if_eq (tgt := 25) (dx D_m_sheet 8 rfl) (by decide) (fun c => ?_) (fun c => ?_)
    · replace h := h.2 (bP_z c)
      refine q_bipush (v := (-2)) (dx D_m_sheet 12 rfl) (by decide) ?_
      exact e_iret (dx D_m_sheet 13 rfl) rfl rfl ⟨_, rfl, h⟩
    · replace h := h.1 (bP_n c)
      refine e_iload_n (dx D_m_sheet 9 rfl) rfl ?_
      refine q_bipush (v := 60) (dx D_m_sheet 10 rfl) (by decide) ?_
      refine e_icmp_le (tgt := 28) (dx D_m_sheet 11 rfl) (by decide) (fun c => ?_) (fun c => ?_)
      · replace h := h.1 c
        refine e_iload_n (dx D_m_sheet 14 rfl) rfl ?_
        refine e_if_ge (tgt := 38) (dx D_m_sheet 15 rfl) (by decide) (fun c => ?_) (fun c => ?_)
        · replace h := h.1 c
          refine e_aload_n (dx D_m_sheet 20 rfl) rfl ?_
          refine e_getR (dx D_m_sheet 21 rfl) fl_RX9_7 rfl rfl ?_
          refine e_iload_n (dx D_m_sheet 22 rfl) rfl ?_
          refine e_iload_n (dx D_m_sheet 23 rfl) rfl ?_
          obtain ⟨hb1, h⟩ := h
          refine e_iast (dx D_m_sheet 24 rfl) rfl hb1 ?_
          refine e_aload_n (dx D_m_sheet 25 rfl) rfl ?_
          refine e_getR (dx D_m_sheet 26 rfl) fl_RX9_13 rfl rfl ?_
          refine e_iload_n (dx D_m_sheet 27 rfl) rfl ?_
          refine e_iload_n (dx D_m_sheet 28 rfl) rfl ?_
          obtain ⟨hb2, h⟩ := h
          refine e_iast (dx D_m_sheet 29 rfl) rfl hb2 ?_
          refine q_iconst (v := 0) (dx D_m_sheet 30 rfl) (by decide) ?_
          refine q_istore (L' := [some (.ref 34), some (.int x1), some (.int x2), some (.int x3), some (.int 0)]) (dx D_m_sheet 31 rfl) (by decide) rfl ?_
          exact Wp.mask [true, true, false, true, true] h
        · replace h := h.2 c
          refine e_aload_n (dx D_m_sheet 16 rfl) rfl ?_
          refine q_iconst (v := 5) (dx D_m_sheet 17 rfl) (by decide) ?_
          refine e_callVi (Q1 := fun r g' => ((-10) - 5) = r ∧ (sgU g 34 4 5) = g') (rest := []) [.int 5] (dx D_m_sheet 18 rfl) ln_m_sheet_86 rfl rfl rfl (Nat.le_of_ble_eq_true rfl) (Im_finds  ⟨rfl, rfl⟩) (fun r g' hh => ?_)
          obtain ⟨rfl, rfl⟩ := hh
          exact e_iret (dx D_m_sheet 19 rfl) rfl rfl ⟨_, rfl, h⟩
      · replace h := h.2 c
        refine q_bipush (v := (-2)) (dx D_m_sheet 12 rfl) (by decide) ?_
        exact e_iret (dx D_m_sheet 13 rfl) rfl rfl ⟨_, rfl, h⟩
set_option maxRecDepth 20000 in
theorem Vm_sheet_55 {x1 : Int32} {x3 : Int32} {x4 : Int32} {g : Sg} {Q : Int32 → Sg → Prop} (h : ((x3 ≤ x4 → Q x3 g) ∧ (¬ x3 ≤ x4 → vp_in ((60 * x1) + x4) 240 ∧ Hm_sheet_55 x1 x3 (x4 + 1) (sgU g 37 ((60 * x1) + x4).toNatClampNeg 0) Q))) : Hm_sheet_55 x1 x3 x4 g Q := by
  refine e_iload (dx D_m_sheet 32 rfl) rfl ?_
  refine e_iload_n (dx D_m_sheet 33 rfl) rfl ?_
  refine e_icmp_ge (tgt := 80) (dx D_m_sheet 34 rfl) (by decide) (fun c => ?_) (fun c => ?_)
  · replace h := h.1 c
    refine e_iload_n (dx D_m_sheet 46 rfl) rfl ?_
    exact e_iret (dx D_m_sheet 47 rfl) rfl rfl ⟨_, rfl, h⟩
  · replace h := h.2 c
    refine e_aload_n (dx D_m_sheet 35 rfl) rfl ?_
    refine e_getR (dx D_m_sheet 36 rfl) fl_RX9_16 rfl rfl ?_
    refine q_bipush (v := 60) (dx D_m_sheet 37 rfl) (by decide) ?_
    refine e_iload_n (dx D_m_sheet 38 rfl) rfl ?_
    refine e_imul (dx D_m_sheet 39 rfl) ?_
    refine e_iload (dx D_m_sheet 40 rfl) rfl ?_
    refine e_iadd (dx D_m_sheet 41 rfl) ?_
    refine q_iconst (v := 0) (dx D_m_sheet 42 rfl) (by decide) ?_
    obtain ⟨hb1, h⟩ := h
    refine e_iast (dx D_m_sheet 43 rfl) rfl hb1 ?_
    refine q_iinc (d := 1) (L' := [some (.ref 34), some (.int x1), none, some (.int x3), some (.int (x4 + 1))]) (dx D_m_sheet 44 rfl) rfl (by decide) (by decide) rfl ?_
    refine e_goto (tgt := 55) (dx D_m_sheet 45 rfl) (by decide) ?_
    exact h
abbrev Cm_lose (x1 : Int32) (g : Sg) (Q : Int32 → Sg → Prop) : Prop := Ci Mm_lose [.ref 34, .int x1] g Q
set_option maxRecDepth 20000 in
theorem Vm_lose {x1 : Int32} {g : Sg} {Q : Int32 → Sg → Prop} (h : (((isS x1) → vp_in x1 4 ∧ ((0 ≤ (g 35 (x1).toNatClampNeg) → vp_in x1 4 ∧ vp_in x1 4 ∧ Q (g 36 (x1).toNatClampNeg) (sgU g 35 (x1).toNatClampNeg (-1))) ∧ (¬ 0 ≤ (g 35 (x1).toNatClampNeg) → Q ((-10) - 1) (sgU g 34 4 1)))) ∧ (¬ (isS x1) → Q (-2) g))) : Cm_lose x1 g Q := by
  refine Cl.of 0 pl_X9 rfl ?_
  refine e_iload_n (dx D_m_lose 0 rfl) rfl ?_
  refine e_callSi (Q1 := fun r g' => bP (isS x1) = r ∧ g = g') (rest := []) [.int x1] (dx D_m_lose 1 rfl) ln_m_lose_80 rfl rfl (Nat.le_of_ble_eq_true rfl) (Im_isSheet  ⟨rfl, rfl⟩) (fun r g' hh => ?_)
  obtain ⟨rfl, rfl⟩ := hh
  refine e_if_ne (tgt := 10) (dx D_m_lose 2 rfl) (by decide) (fun c => ?_) (fun c => ?_)
  · replace h := h.1 (bP_n c)
    refine e_aload_n (dx D_m_lose 5 rfl) rfl ?_
    refine e_getR (dx D_m_lose 6 rfl) fl_RX9_7 rfl rfl ?_
    refine e_iload_n (dx D_m_lose 7 rfl) rfl ?_
    obtain ⟨hb1, h⟩ := h
    refine e_iald (dx D_m_lose 8 rfl) rfl hb1 ?_
    refine e_if_ge (tgt := 25) (dx D_m_lose 9 rfl) (by decide) (fun c => ?_) (fun c => ?_)
    · replace h := h.1 c
      refine e_aload_n (dx D_m_lose 14 rfl) rfl ?_
      refine e_getR (dx D_m_lose 15 rfl) fl_RX9_7 rfl rfl ?_
      refine e_iload_n (dx D_m_lose 16 rfl) rfl ?_
      refine q_iconst (v := (-1)) (dx D_m_lose 17 rfl) (by decide) ?_
      obtain ⟨hb2, h⟩ := h
      refine e_iast (dx D_m_lose 18 rfl) rfl hb2 ?_
      refine e_aload_n (dx D_m_lose 19 rfl) rfl ?_
      refine e_getR (dx D_m_lose 20 rfl) fl_RX9_13 rfl rfl ?_
      refine e_iload_n (dx D_m_lose 21 rfl) rfl ?_
      obtain ⟨hb3, h⟩ := h
      refine e_iald (dx D_m_lose 22 rfl) rfl hb3 ?_
      exact e_iret (dx D_m_lose 23 rfl) rfl rfl ⟨_, rfl, h⟩
    · replace h := h.2 c
      refine e_aload_n (dx D_m_lose 10 rfl) rfl ?_
      refine q_iconst (v := 1) (dx D_m_lose 11 rfl) (by decide) ?_
      refine e_callVi (Q1 := fun r g' => ((-10) - 1) = r ∧ (sgU g 34 4 1) = g') (rest := []) [.int 1] (dx D_m_lose 12 rfl) ln_m_lose_86 rfl rfl rfl (Nat.le_of_ble_eq_true rfl) (Im_finds  ⟨rfl, rfl⟩) (fun r g' hh => ?_)
      obtain ⟨rfl, rfl⟩ := hh
      exact e_iret (dx D_m_lose 13 rfl) rfl rfl ⟨_, rfl, h⟩
  · replace h := h.2 (bP_z c)
    refine q_bipush (v := (-2)) (dx D_m_lose 3 rfl) (by decide) ?_
    exact e_iret (dx D_m_lose 4 rfl) rfl rfl ⟨_, rfl, h⟩
abbrev Cm_lacks (x1 : Int32) (x2 : Int32) (x3 : Int32) (g : Sg) (Q : Int32 → Sg → Prop) : Prop := Ci Mm_lacks [.ref 34, .int x1, .int x2, .int x3] g Q
set_option maxRecDepth 20000 in
theorem Vm_lacks {x1 : Int32} {x2 : Int32} {x3 : Int32} {g : Sg} {Q : Int32 → Sg → Prop} (h : vp_in x1 4 ∧ ((0 ≤ (g 35 (x1).toNatClampNeg) → vp_in x1 4 ∧ (((g 35 (x1).toNatClampNeg) = x2 → vp_in x1 4 ∧ (((0 ≤ x3 ∧ x3 ≤ ((g 36 (x1).toNatClampNeg) - 1)) → Q 0 g) ∧ (¬ (0 ≤ x3 ∧ x3 ≤ ((g 36 (x1).toNatClampNeg) - 1)) → Q ((-10) - 2) (sgU g 34 4 2)))) ∧ (¬ (g 35 (x1).toNatClampNeg) = x2 → Q ((-10) - 3) (sgU g 34 4 3)))) ∧ (¬ 0 ≤ (g 35 (x1).toNatClampNeg) → Q ((-10) - 1) (sgU g 34 4 1)))) : Cm_lacks x1 x2 x3 g Q := by
  refine Cl.of 0 pl_X9 rfl ?_
  refine e_aload_n (dx D_m_lacks 0 rfl) rfl ?_
  refine e_getR (dx D_m_lacks 1 rfl) fl_RX9_7 rfl rfl ?_
  refine e_iload_n (dx D_m_lacks 2 rfl) rfl ?_
  obtain ⟨hb1, h⟩ := h
  refine e_iald (dx D_m_lacks 3 rfl) rfl hb1 ?_
  refine e_if_ge (tgt := 15) (dx D_m_lacks 4 rfl) (by decide) (fun c => ?_) (fun c => ?_)
  · replace h := h.1 c
    refine e_aload_n (dx D_m_lacks 9 rfl) rfl ?_
    refine e_getR (dx D_m_lacks 10 rfl) fl_RX9_7 rfl rfl ?_
    refine e_iload_n (dx D_m_lacks 11 rfl) rfl ?_
    obtain ⟨hb2, h⟩ := h
    refine e_iald (dx D_m_lacks 12 rfl) rfl hb2 ?_
    refine e_iload_n (dx D_m_lacks 13 rfl) rfl ?_
    refine e_icmp_eq (tgt := 31) (dx D_m_lacks 14 rfl) (by decide) (fun c => ?_) (fun c => ?_)
    · replace h := h.1 c
      refine e_iload_n (dx D_m_lacks 19 rfl) rfl ?_
      refine e_i2l (dx D_m_lacks 20 rfl) ?_
      refine q_lconst (v := 0) (dx D_m_lacks 21 rfl) (by decide) ?_
      refine e_aload_n (dx D_m_lacks 22 rfl) rfl ?_
      refine e_getR (dx D_m_lacks 23 rfl) fl_RX9_13 rfl rfl ?_
      refine e_iload_n (dx D_m_lacks 24 rfl) rfl ?_
      obtain ⟨hb3, h⟩ := h
      refine e_iald (dx D_m_lacks 25 rfl) rfl hb3 ?_
      refine q_iconst (v := 1) (dx D_m_lacks 26 rfl) (by decide) ?_
      refine e_isub (dx D_m_lacks 27 rfl) ?_
      refine e_i2l (dx D_m_lacks 28 rfl) ?_
      refine e_callSi (Q1 := fun r g' => bP (0 ≤ x3 ∧ x3 ≤ ((g 36 (x1).toNatClampNeg) - 1)) = r ∧ g = g') (rest := []) [.long (Int32.toInt64 x3), .long 0, .long (Int32.toInt64 ((g 36 (x1).toNatClampNeg) - 1))] (dx D_m_lacks 29 rfl) ln_m_lacks_70 rfl rfl (Nat.le_of_ble_eq_true rfl) (Im_in  ⟨(in32 (a := x3) (b := 0) (c := ((g 36 (x1).toNatClampNeg) - 1)) rfl (by decide) rfl).symm, rfl⟩) (fun r g' hh => ?_)
      obtain ⟨rfl, rfl⟩ := hh
      refine e_if_eq (tgt := 53) (dx D_m_lacks 30 rfl) (by decide) (fun c => ?_) (fun c => ?_)
      · replace h := h.2 (bP_z c)
        refine e_aload_n (dx D_m_lacks 33 rfl) rfl ?_
        refine q_iconst (v := 2) (dx D_m_lacks 34 rfl) (by decide) ?_
        refine e_callVi (Q1 := fun r g' => ((-10) - 2) = r ∧ (sgU g 34 4 2) = g') (rest := []) [.int 2] (dx D_m_lacks 35 rfl) ln_m_lacks_86 rfl rfl rfl (Nat.le_of_ble_eq_true rfl) (Im_finds  ⟨rfl, rfl⟩) (fun r g' hh => ?_)
        obtain ⟨rfl, rfl⟩ := hh
        exact e_iret (dx D_m_lacks 36 rfl) rfl rfl ⟨_, rfl, h⟩
      · replace h := h.1 (bP_n c)
        refine q_iconst (v := 0) (dx D_m_lacks 31 rfl) (by decide) ?_
        refine e_goto (tgt := 58) (dx D_m_lacks 32 rfl) (by decide) ?_
        exact e_iret (dx D_m_lacks 36 rfl) rfl rfl ⟨_, rfl, h⟩
    · replace h := h.2 c
      refine e_aload_n (dx D_m_lacks 15 rfl) rfl ?_
      refine q_iconst (v := 3) (dx D_m_lacks 16 rfl) (by decide) ?_
      refine e_callVi (Q1 := fun r g' => ((-10) - 3) = r ∧ (sgU g 34 4 3) = g') (rest := []) [.int 3] (dx D_m_lacks 17 rfl) ln_m_lacks_86 rfl rfl rfl (Nat.le_of_ble_eq_true rfl) (Im_finds  ⟨rfl, rfl⟩) (fun r g' hh => ?_)
      obtain ⟨rfl, rfl⟩ := hh
      exact e_iret (dx D_m_lacks 18 rfl) rfl rfl ⟨_, rfl, h⟩
  · replace h := h.2 c
    refine e_aload_n (dx D_m_lacks 5 rfl) rfl ?_
    refine q_iconst (v := 1) (dx D_m_lacks 6 rfl) (by decide) ?_
    refine e_callVi (Q1 := fun r g' => ((-10) - 1) = r ∧ (sgU g 34 4 1) = g') (rest := []) [.int 1] (dx D_m_lacks 7 rfl) ln_m_lacks_86 rfl rfl rfl (Nat.le_of_ble_eq_true rfl) (Im_finds  ⟨rfl, rfl⟩) (fun r g' hh => ?_)
    obtain ⟨rfl, rfl⟩ := hh
    exact e_iret (dx D_m_lacks 8 rfl) rfl rfl ⟨_, rfl, h⟩
abbrev Cm_lay (x1 : Int32) (x2 : Int32) (x3 : Int32) (x4 : Int32) (g : Sg) (Q : Int32 → Sg → Prop) : Prop := Ci Mm_lay [.ref 34, .int x1, .int x2, .int x3, .int x4] g Q
set_option maxRecDepth 20000 in
theorem Vm_lay {x1 : Int32} {x2 : Int32} {x3 : Int32} {x4 : Int32} {g : Sg} {Q : Int32 → Sg → Prop} (h : (((isS x1) → (((0 ≤ x2 ∧ x2 ≤ 2) → Cm_lacks x1 x2 x3 g (fun r2 g1 => ((r2 = 0 → vp_in ((60 * x1) + x3) 240 ∧ Q 1 (sgU g1 37 ((60 * x1) + x3).toNatClampNeg (nrw x2 x4))) ∧ (¬ r2 = 0 → Q r2 g1)))) ∧ (¬ (0 ≤ x2 ∧ x2 ≤ 2) → Q (-2) g))) ∧ (¬ (isS x1) → Q (-2) g))) : Cm_lay x1 x2 x3 x4 g Q := by
  refine Cl.of 1 pl_X9 rfl ?_
  refine e_iload_n (dx D_m_lay 0 rfl) rfl ?_
  refine e_callSi (Q1 := fun r g' => bP (isS x1) = r ∧ g = g') (rest := []) [.int x1] (dx D_m_lay 1 rfl) ln_m_lay_80 rfl rfl (Nat.le_of_ble_eq_true rfl) (Im_isSheet  ⟨rfl, rfl⟩) (fun r g' hh => ?_)
  obtain ⟨rfl, rfl⟩ := hh
  refine e_if_eq (tgt := 19) (dx D_m_lay 2 rfl) (by decide) (fun c => ?_) (fun c => ?_)
  · replace h := h.2 (bP_z c)
    refine q_bipush (v := (-2)) (dx D_m_lay 9 rfl) (by decide) ?_
    exact e_iret (dx D_m_lay 10 rfl) rfl rfl ⟨_, rfl, h⟩
  · replace h := h.1 (bP_n c)
    refine e_iload_n (dx D_m_lay 3 rfl) rfl ?_
    refine e_i2l (dx D_m_lay 4 rfl) ?_
    refine q_lconst (v := 0) (dx D_m_lay 5 rfl) (by decide) ?_
    refine e_ldc2 (v := 2) (dx D_m_lay 6 rfl) k1056 ?_
    refine e_callSi (Q1 := fun r g' => bP (0 ≤ x2 ∧ x2 ≤ 2) = r ∧ g = g') (rest := []) [.long (Int32.toInt64 x2), .long 0, .long 2] (dx D_m_lay 7 rfl) ln_m_lay_70 rfl rfl (Nat.le_of_ble_eq_true rfl) (Im_in  ⟨(in32 (a := x2) (b := 0) (c := 2) rfl (by decide) (by decide)).symm, rfl⟩) (fun r g' hh => ?_)
    obtain ⟨rfl, rfl⟩ := hh
    refine e_if_ne (tgt := 22) (dx D_m_lay 8 rfl) (by decide) (fun c => ?_) (fun c => ?_)
    · replace h := h.1 (bP_n c)
      refine e_aload_n (dx D_m_lay 11 rfl) rfl ?_
      refine e_iload_n (dx D_m_lay 12 rfl) rfl ?_
      refine e_iload_n (dx D_m_lay 13 rfl) rfl ?_
      refine e_iload_n (dx D_m_lay 14 rfl) rfl ?_
      refine e_callVi (rest := []) [.int x1, .int x2, .int x3] (dx D_m_lay 15 rfl) ln_m_lay_90 rfl rfl rfl (Nat.le_of_ble_eq_true rfl) h (fun r2 g1 h => ?_)
      refine q_istore (L' := [some (.ref 34), some (.int x1), some (.int x2), some (.int x3), some (.int x4), some (.int r2)]) (dx D_m_lay 16 rfl) (by decide) rfl ?_
      refine e_iload (dx D_m_lay 17 rfl) rfl ?_
      refine e_if_eq (tgt := 39) (dx D_m_lay 18 rfl) (by decide) (fun c => ?_) (fun c => ?_)
      · replace h := h.1 c
        refine e_aload_n (dx D_m_lay 21 rfl) rfl ?_
        refine e_getR (dx D_m_lay 22 rfl) fl_RX9_16 rfl rfl ?_
        refine q_bipush (v := 60) (dx D_m_lay 23 rfl) (by decide) ?_
        refine e_iload_n (dx D_m_lay 24 rfl) rfl ?_
        refine e_imul (dx D_m_lay 25 rfl) ?_
        refine e_iload_n (dx D_m_lay 26 rfl) rfl ?_
        refine e_iadd (dx D_m_lay 27 rfl) ?_
        refine e_iload_n (dx D_m_lay 28 rfl) rfl ?_
        refine e_iload (dx D_m_lay 29 rfl) rfl ?_
        refine e_callSi (Q1 := fun r g' => (nrw x2 x4) = r ∧ g1 = g') (rest := [.int ((60 * x1) + x3), .ref 37]) [.int x2, .int x4] (dx D_m_lay 30 rfl) ln_m_lay_94 rfl rfl (Nat.le_of_ble_eq_true rfl) (Im_cut  ⟨rfl, rfl⟩) (fun r g' hh => ?_)
        obtain ⟨rfl, rfl⟩ := hh
        obtain ⟨hb3, h⟩ := h
        refine e_iast (dx D_m_lay 31 rfl) rfl hb3 ?_
        refine q_iconst (v := 1) (dx D_m_lay 32 rfl) (by decide) ?_
        exact e_iret (dx D_m_lay 33 rfl) rfl rfl ⟨_, rfl, h⟩
      · replace h := h.2 c
        refine e_iload (dx D_m_lay 19 rfl) rfl ?_
        exact e_iret (dx D_m_lay 20 rfl) rfl rfl ⟨_, rfl, h⟩
    · replace h := h.2 (bP_z c)
      refine q_bipush (v := (-2)) (dx D_m_lay 9 rfl) (by decide) ?_
      exact e_iret (dx D_m_lay 10 rfl) rfl rfl ⟨_, rfl, h⟩
abbrev Cm_get (x1 : Int32) (x2 : Int32) (x3 : Int32) (g : Sg) (Q : Int32 → Sg → Prop) : Prop := Ci Mm_get [.ref 34, .int x1, .int x2, .int x3] g Q
set_option maxRecDepth 20000 in
theorem Vm_get {x1 : Int32} {x2 : Int32} {x3 : Int32} {g : Sg} {Q : Int32 → Sg → Prop} (h : (((isS x1) → (((0 ≤ x2 ∧ x2 ≤ 2) → Cm_lacks x1 x2 x3 g (fun r2 g1 => ((r2 = 0 → vp_in ((60 * x1) + x3) 240 ∧ Q (g1 37 ((60 * x1) + x3).toNatClampNeg) g1) ∧ (¬ r2 = 0 → Q (-2147483648) g1)))) ∧ (¬ (0 ≤ x2 ∧ x2 ≤ 2) → Q (-2147483648) g))) ∧ (¬ (isS x1) → Q (-2147483648) g))) : Cm_get x1 x2 x3 g Q := by
  refine Cl.of 0 pl_X9 rfl ?_
  refine e_iload_n (dx D_m_get 0 rfl) rfl ?_
  refine e_callSi (Q1 := fun r g' => bP (isS x1) = r ∧ g = g') (rest := []) [.int x1] (dx D_m_get 1 rfl) ln_m_get_80 rfl rfl (Nat.le_of_ble_eq_true rfl) (Im_isSheet  ⟨rfl, rfl⟩) (fun r g' hh => ?_)
  obtain ⟨rfl, rfl⟩ := hh
  refine e_if_eq (tgt := 29) (dx D_m_get 2 rfl) (by decide) (fun c => ?_) (fun c => ?_)
  · replace h := h.2 (bP_z c)
    refine e_ldc (v := (-2147483648)) (dx D_m_get 15 rfl) k1080 ?_
    exact e_iret (dx D_m_get 16 rfl) rfl rfl ⟨_, rfl, h⟩
  · replace h := h.1 (bP_n c)
    refine e_iload_n (dx D_m_get 3 rfl) rfl ?_
    refine e_i2l (dx D_m_get 4 rfl) ?_
    refine q_lconst (v := 0) (dx D_m_get 5 rfl) (by decide) ?_
    refine e_ldc2 (v := 2) (dx D_m_get 6 rfl) k1056 ?_
    refine e_callSi (Q1 := fun r g' => bP (0 ≤ x2 ∧ x2 ≤ 2) = r ∧ g = g') (rest := []) [.long (Int32.toInt64 x2), .long 0, .long 2] (dx D_m_get 7 rfl) ln_m_get_70 rfl rfl (Nat.le_of_ble_eq_true rfl) (Im_in  ⟨(in32 (a := x2) (b := 0) (c := 2) rfl (by decide) (by decide)).symm, rfl⟩) (fun r g' hh => ?_)
    obtain ⟨rfl, rfl⟩ := hh
    refine e_if_eq (tgt := 29) (dx D_m_get 8 rfl) (by decide) (fun c => ?_) (fun c => ?_)
    · replace h := h.2 (bP_z c)
      refine e_ldc (v := (-2147483648)) (dx D_m_get 15 rfl) k1080 ?_
      exact e_iret (dx D_m_get 16 rfl) rfl rfl ⟨_, rfl, h⟩
    · replace h := h.1 (bP_n c)
      refine e_aload_n (dx D_m_get 9 rfl) rfl ?_
      refine e_iload_n (dx D_m_get 10 rfl) rfl ?_
      refine e_iload_n (dx D_m_get 11 rfl) rfl ?_
      refine e_iload_n (dx D_m_get 12 rfl) rfl ?_
      refine e_callVi (rest := []) [.int x1, .int x2, .int x3] (dx D_m_get 13 rfl) ln_m_get_90 rfl rfl rfl (Nat.le_of_ble_eq_true rfl) h (fun r2 g1 h => ?_)
      refine e_if_eq (tgt := 32) (dx D_m_get 14 rfl) (by decide) (fun c => ?_) (fun c => ?_)
      · replace h := h.1 c
        refine e_aload_n (dx D_m_get 17 rfl) rfl ?_
        refine e_getR (dx D_m_get 18 rfl) fl_RX9_16 rfl rfl ?_
        refine q_bipush (v := 60) (dx D_m_get 19 rfl) (by decide) ?_
        refine e_iload_n (dx D_m_get 20 rfl) rfl ?_
        refine e_imul (dx D_m_get 21 rfl) ?_
        refine e_iload_n (dx D_m_get 22 rfl) rfl ?_
        refine e_iadd (dx D_m_get 23 rfl) ?_
        obtain ⟨hb3, h⟩ := h
        refine e_iald (dx D_m_get 24 rfl) rfl hb3 ?_
        exact e_iret (dx D_m_get 25 rfl) rfl rfl ⟨_, rfl, h⟩
      · replace h := h.2 c
        refine e_ldc (v := (-2147483648)) (dx D_m_get 15 rfl) k1080 ?_
        exact e_iret (dx D_m_get 16 rfl) rfl rfl ⟨_, rfl, h⟩
abbrev Cm_copy (x1 : Int32) (x2 : Int32) (x3 : Int32) (x4 : Int32) (x5 : Int32) (g : Sg) (Q : Int32 → Sg → Prop) : Prop := Ci Mm_copy [.ref 34, .int x1, .int x2, .int x3, .int x4, .int x5] g Q
abbrev Hm_copy_120 (x1 : Int32) (x2 : Int32) (x3 : Int32) (x4 : Int32) (x5 : Int32) (x6 : Int32) (g : Sg) (Q : Int32 → Sg → Prop) : Prop := Hi Mm_copy 120 [some (.ref 34), some (.int x1), some (.int x2), some (.int x3), some (.int x4), some (.int x5), some (.int x6)] [] g Q
abbrev Hm_copy_157 (x3 : Int32) (x4 : Int32) (x5 : Int32) (x6 : Int32) (g : Sg) (Q : Int32 → Sg → Prop) : Prop := Hi Mm_copy 157 [some (.ref 34), none, none, some (.int x3), some (.int x4), some (.int x5), some (.int x6)] [] g Q
set_option maxRecDepth 20000 in
theorem Vm_copy {x1 : Int32} {x2 : Int32} {x3 : Int32} {x4 : Int32} {x5 : Int32} {g : Sg} {Q : Int32 → Sg → Prop} (h : (((isS x1) → (((isS x3) → vp_in x1 4 ∧ (((g 35 (x1).toNatClampNeg) < 0 → Q ((-10) - 1) (sgU g 34 4 1)) ∧ (¬ (g 35 (x1).toNatClampNeg) < 0 → vp_in x3 4 ∧ ((0 ≤ (g 35 (x3).toNatClampNeg) → vp_in x1 4 ∧ vp_in x3 4 ∧ (((g 35 (x1).toNatClampNeg) = (g 35 (x3).toNatClampNeg) → ((x2 < 0 → Q ((-10) - 2) (sgU g 34 4 2)) ∧ (¬ x2 < 0 → ((x4 < 0 → Q ((-10) - 2) (sgU g 34 4 2)) ∧ (¬ x4 < 0 → ((x5 < 0 → Q ((-10) - 2) (sgU g 34 4 2)) ∧ (¬ x5 < 0 → vp_in x1 4 ∧ ((0 < (lg_cmp ((Int32.toInt64 x2) + (Int32.toInt64 x5)) (Int32.toInt64 (g 36 (x1).toNatClampNeg))) → Q ((-10) - 2) (sgU g 34 4 2)) ∧ (¬ 0 < (lg_cmp ((Int32.toInt64 x2) + (Int32.toInt64 x5)) (Int32.toInt64 (g 36 (x1).toNatClampNeg))) → vp_in x3 4 ∧ (((lg_cmp ((Int32.toInt64 x4) + (Int32.toInt64 x5)) (Int32.toInt64 (g 36 (x3).toNatClampNeg))) ≤ 0 → Hm_copy_120 x1 x2 x3 x4 x5 0 g Q) ∧ (¬ (lg_cmp ((Int32.toInt64 x4) + (Int32.toInt64 x5)) (Int32.toInt64 (g 36 (x3).toNatClampNeg))) ≤ 0 → Q ((-10) - 2) (sgU g 34 4 2)))))))))))) ∧ (¬ (g 35 (x1).toNatClampNeg) = (g 35 (x3).toNatClampNeg) → Q ((-10) - 4) (sgU g 34 4 4)))) ∧ (¬ 0 ≤ (g 35 (x3).toNatClampNeg) → Q ((-10) - 1) (sgU g 34 4 1)))))) ∧ (¬ (isS x3) → Q (-2) g))) ∧ (¬ (isS x1) → Q (-2) g))) : Cm_copy x1 x2 x3 x4 x5 g Q := by
  refine Cl.of 1 pl_X9 rfl ?_
  refine e_iload_n (dx D_m_copy 0 rfl) rfl ?_
  refine e_callSi (Q1 := fun r g' => bP (isS x1) = r ∧ g = g') (rest := []) [.int x1] (dx D_m_copy 1 rfl) ln_m_copy_80 rfl rfl (Nat.le_of_ble_eq_true rfl) (Im_isSheet  ⟨rfl, rfl⟩) (fun r g' hh => ?_)
  obtain ⟨rfl, rfl⟩ := hh
  refine e_if_eq (tgt := 14) (dx D_m_copy 2 rfl) (by decide) (fun c => ?_) (fun c => ?_)
  · replace h := h.2 (bP_z c)
    refine q_bipush (v := (-2)) (dx D_m_copy 6 rfl) (by decide) ?_
    exact e_iret (dx D_m_copy 7 rfl) rfl rfl ⟨_, rfl, h⟩
  · replace h := h.1 (bP_n c)
    refine e_iload_n (dx D_m_copy 3 rfl) rfl ?_
    refine e_callSi (Q1 := fun r g' => bP (isS x3) = r ∧ g = g') (rest := []) [.int x3] (dx D_m_copy 4 rfl) ln_m_copy_80 rfl rfl (Nat.le_of_ble_eq_true rfl) (Im_isSheet  ⟨rfl, rfl⟩) (fun r g' hh => ?_)
    obtain ⟨rfl, rfl⟩ := hh
    refine e_if_ne (tgt := 17) (dx D_m_copy 5 rfl) (by decide) (fun c => ?_) (fun c => ?_)
    · replace h := h.1 (bP_n c)
      refine e_aload_n (dx D_m_copy 8 rfl) rfl ?_
      refine e_getR (dx D_m_copy 9 rfl) fl_RX9_7 rfl rfl ?_
      refine e_iload_n (dx D_m_copy 10 rfl) rfl ?_
      obtain ⟨hb1, h⟩ := h
      refine e_iald (dx D_m_copy 11 rfl) rfl hb1 ?_
      refine e_if_lt (tgt := 35) (dx D_m_copy 12 rfl) (by decide) (fun c => ?_) (fun c => ?_)
      · replace h := h.1 c
        refine e_aload_n (dx D_m_copy 18 rfl) rfl ?_
        refine q_iconst (v := 1) (dx D_m_copy 19 rfl) (by decide) ?_
        refine e_callVi (Q1 := fun r g' => ((-10) - 1) = r ∧ (sgU g 34 4 1) = g') (rest := []) [.int 1] (dx D_m_copy 20 rfl) ln_m_copy_86 rfl rfl rfl (Nat.le_of_ble_eq_true rfl) (Im_finds  ⟨rfl, rfl⟩) (fun r g' hh => ?_)
        obtain ⟨rfl, rfl⟩ := hh
        exact e_iret (dx D_m_copy 21 rfl) rfl rfl ⟨_, rfl, h⟩
      · replace h := h.2 c
        refine e_aload_n (dx D_m_copy 13 rfl) rfl ?_
        refine e_getR (dx D_m_copy 14 rfl) fl_RX9_7 rfl rfl ?_
        refine e_iload_n (dx D_m_copy 15 rfl) rfl ?_
        obtain ⟨hb2, h⟩ := h
        refine e_iald (dx D_m_copy 16 rfl) rfl hb2 ?_
        refine e_if_ge (tgt := 41) (dx D_m_copy 17 rfl) (by decide) (fun c => ?_) (fun c => ?_)
        · replace h := h.1 c
          refine e_aload_n (dx D_m_copy 22 rfl) rfl ?_
          refine e_getR (dx D_m_copy 23 rfl) fl_RX9_7 rfl rfl ?_
          refine e_iload_n (dx D_m_copy 24 rfl) rfl ?_
          obtain ⟨hb3, h⟩ := h
          refine e_iald (dx D_m_copy 25 rfl) rfl hb3 ?_
          refine e_aload_n (dx D_m_copy 26 rfl) rfl ?_
          refine e_getR (dx D_m_copy 27 rfl) fl_RX9_7 rfl rfl ?_
          refine e_iload_n (dx D_m_copy 28 rfl) rfl ?_
          obtain ⟨hb4, h⟩ := h
          refine e_iald (dx D_m_copy 29 rfl) rfl hb4 ?_
          refine e_icmp_eq (tgt := 62) (dx D_m_copy 30 rfl) (by decide) (fun c => ?_) (fun c => ?_)
          · replace h := h.1 c
            refine e_iload_n (dx D_m_copy 35 rfl) rfl ?_
            refine e_if_lt (tgt := 111) (dx D_m_copy 36 rfl) (by decide) (fun c => ?_) (fun c => ?_)
            · replace h := h.1 c
              refine e_aload_n (dx D_m_copy 65 rfl) rfl ?_
              refine q_iconst (v := 2) (dx D_m_copy 66 rfl) (by decide) ?_
              refine e_callVi (Q1 := fun r g' => ((-10) - 2) = r ∧ (sgU g 34 4 2) = g') (rest := []) [.int 2] (dx D_m_copy 67 rfl) ln_m_copy_86 rfl rfl rfl (Nat.le_of_ble_eq_true rfl) (Im_finds  ⟨rfl, rfl⟩) (fun r g' hh => ?_)
              obtain ⟨rfl, rfl⟩ := hh
              exact e_iret (dx D_m_copy 68 rfl) rfl rfl ⟨_, rfl, h⟩
            · replace h := h.2 c
              refine e_iload (dx D_m_copy 37 rfl) rfl ?_
              refine e_if_lt (tgt := 111) (dx D_m_copy 38 rfl) (by decide) (fun c => ?_) (fun c => ?_)
              · replace h := h.1 c
                refine e_aload_n (dx D_m_copy 65 rfl) rfl ?_
                refine q_iconst (v := 2) (dx D_m_copy 66 rfl) (by decide) ?_
                refine e_callVi (Q1 := fun r g' => ((-10) - 2) = r ∧ (sgU g 34 4 2) = g') (rest := []) [.int 2] (dx D_m_copy 67 rfl) ln_m_copy_86 rfl rfl rfl (Nat.le_of_ble_eq_true rfl) (Im_finds  ⟨rfl, rfl⟩) (fun r g' hh => ?_)
                obtain ⟨rfl, rfl⟩ := hh
                exact e_iret (dx D_m_copy 68 rfl) rfl rfl ⟨_, rfl, h⟩
              · replace h := h.2 c
                refine e_iload (dx D_m_copy 39 rfl) rfl ?_
                refine e_if_lt (tgt := 111) (dx D_m_copy 40 rfl) (by decide) (fun c => ?_) (fun c => ?_)
                · replace h := h.1 c
                  refine e_aload_n (dx D_m_copy 65 rfl) rfl ?_
                  refine q_iconst (v := 2) (dx D_m_copy 66 rfl) (by decide) ?_
                  refine e_callVi (Q1 := fun r g' => ((-10) - 2) = r ∧ (sgU g 34 4 2) = g') (rest := []) [.int 2] (dx D_m_copy 67 rfl) ln_m_copy_86 rfl rfl rfl (Nat.le_of_ble_eq_true rfl) (Im_finds  ⟨rfl, rfl⟩) (fun r g' hh => ?_)
                  obtain ⟨rfl, rfl⟩ := hh
                  exact e_iret (dx D_m_copy 68 rfl) rfl rfl ⟨_, rfl, h⟩
                · replace h := h.2 c
                  refine e_iload_n (dx D_m_copy 41 rfl) rfl ?_
                  refine e_i2l (dx D_m_copy 42 rfl) ?_
                  refine e_iload (dx D_m_copy 43 rfl) rfl ?_
                  refine e_i2l (dx D_m_copy 44 rfl) ?_
                  refine e_ladd (dx D_m_copy 45 rfl) ?_
                  refine e_aload_n (dx D_m_copy 46 rfl) rfl ?_
                  refine e_getR (dx D_m_copy 47 rfl) fl_RX9_13 rfl rfl ?_
                  refine e_iload_n (dx D_m_copy 48 rfl) rfl ?_
                  obtain ⟨hb5, h⟩ := h
                  refine e_iald (dx D_m_copy 49 rfl) rfl hb5 ?_
                  refine e_i2l (dx D_m_copy 50 rfl) ?_
                  refine e_lcmp (dx D_m_copy 51 rfl) ?_
                  refine e_if_gt (tgt := 111) (dx D_m_copy 52 rfl) (by decide) (fun c => ?_) (fun c => ?_)
                  · replace h := h.1 c
                    refine e_aload_n (dx D_m_copy 65 rfl) rfl ?_
                    refine q_iconst (v := 2) (dx D_m_copy 66 rfl) (by decide) ?_
                    refine e_callVi (Q1 := fun r g' => ((-10) - 2) = r ∧ (sgU g 34 4 2) = g') (rest := []) [.int 2] (dx D_m_copy 67 rfl) ln_m_copy_86 rfl rfl rfl (Nat.le_of_ble_eq_true rfl) (Im_finds  ⟨rfl, rfl⟩) (fun r g' hh => ?_)
                    obtain ⟨rfl, rfl⟩ := hh
                    exact e_iret (dx D_m_copy 68 rfl) rfl rfl ⟨_, rfl, h⟩
                  · replace h := h.2 c
                    refine e_iload (dx D_m_copy 53 rfl) rfl ?_
                    refine e_i2l (dx D_m_copy 54 rfl) ?_
                    refine e_iload (dx D_m_copy 55 rfl) rfl ?_
                    refine e_i2l (dx D_m_copy 56 rfl) ?_
                    refine e_ladd (dx D_m_copy 57 rfl) ?_
                    refine e_aload_n (dx D_m_copy 58 rfl) rfl ?_
                    refine e_getR (dx D_m_copy 59 rfl) fl_RX9_13 rfl rfl ?_
                    refine e_iload_n (dx D_m_copy 60 rfl) rfl ?_
                    obtain ⟨hb6, h⟩ := h
                    refine e_iald (dx D_m_copy 61 rfl) rfl hb6 ?_
                    refine e_i2l (dx D_m_copy 62 rfl) ?_
                    refine e_lcmp (dx D_m_copy 63 rfl) ?_
                    refine e_if_le (tgt := 117) (dx D_m_copy 64 rfl) (by decide) (fun c => ?_) (fun c => ?_)
                    · replace h := h.1 c
                      refine q_iconst (v := 0) (dx D_m_copy 69 rfl) (by decide) ?_
                      refine q_istore (L' := [some (.ref 34), some (.int x1), some (.int x2), some (.int x3), some (.int x4), some (.int x5), some (.int 0)]) (dx D_m_copy 70 rfl) (by decide) rfl ?_
                      exact h
                    · replace h := h.2 c
                      refine e_aload_n (dx D_m_copy 65 rfl) rfl ?_
                      refine q_iconst (v := 2) (dx D_m_copy 66 rfl) (by decide) ?_
                      refine e_callVi (Q1 := fun r g' => ((-10) - 2) = r ∧ (sgU g 34 4 2) = g') (rest := []) [.int 2] (dx D_m_copy 67 rfl) ln_m_copy_86 rfl rfl rfl (Nat.le_of_ble_eq_true rfl) (Im_finds  ⟨rfl, rfl⟩) (fun r g' hh => ?_)
                      obtain ⟨rfl, rfl⟩ := hh
                      exact e_iret (dx D_m_copy 68 rfl) rfl rfl ⟨_, rfl, h⟩
          · replace h := h.2 c
            refine e_aload_n (dx D_m_copy 31 rfl) rfl ?_
            refine q_iconst (v := 4) (dx D_m_copy 32 rfl) (by decide) ?_
            refine e_callVi (Q1 := fun r g' => ((-10) - 4) = r ∧ (sgU g 34 4 4) = g') (rest := []) [.int 4] (dx D_m_copy 33 rfl) ln_m_copy_86 rfl rfl rfl (Nat.le_of_ble_eq_true rfl) (Im_finds  ⟨rfl, rfl⟩) (fun r g' hh => ?_)
            obtain ⟨rfl, rfl⟩ := hh
            exact e_iret (dx D_m_copy 34 rfl) rfl rfl ⟨_, rfl, h⟩
        · replace h := h.2 c
          refine e_aload_n (dx D_m_copy 18 rfl) rfl ?_
          refine q_iconst (v := 1) (dx D_m_copy 19 rfl) (by decide) ?_
          refine e_callVi (Q1 := fun r g' => ((-10) - 1) = r ∧ (sgU g 34 4 1) = g') (rest := []) [.int 1] (dx D_m_copy 20 rfl) ln_m_copy_86 rfl rfl rfl (Nat.le_of_ble_eq_true rfl) (Im_finds  ⟨rfl, rfl⟩) (fun r g' hh => ?_)
          obtain ⟨rfl, rfl⟩ := hh
          exact e_iret (dx D_m_copy 21 rfl) rfl rfl ⟨_, rfl, h⟩
    · replace h := h.2 (bP_z c)
      refine q_bipush (v := (-2)) (dx D_m_copy 6 rfl) (by decide) ?_
      exact e_iret (dx D_m_copy 7 rfl) rfl rfl ⟨_, rfl, h⟩
set_option maxRecDepth 20000 in
theorem Vm_copy_120 {x1 : Int32} {x2 : Int32} {x3 : Int32} {x4 : Int32} {x5 : Int32} {x6 : Int32} {g : Sg} {Q : Int32 → Sg → Prop} (h : ((x5 ≤ x6 → Hm_copy_157 x3 x4 x5 0 g Q) ∧ (¬ x5 ≤ x6 → vp_in (((60 * x1) + x2) + x6) 240 ∧ vp_in x6 60 ∧ Hm_copy_120 x1 x2 x3 x4 x5 (x6 + 1) (sgU g 38 (x6).toNatClampNeg (g 37 (((60 * x1) + x2) + x6).toNatClampNeg)) Q))) : Hm_copy_120 x1 x2 x3 x4 x5 x6 g Q := by
  refine e_iload (dx D_m_copy 71 rfl) rfl ?_
  refine e_iload (dx D_m_copy 72 rfl) rfl ?_
  refine e_icmp_ge (tgt := 154) (dx D_m_copy 73 rfl) (by decide) (fun c => ?_) (fun c => ?_)
  · replace h := h.1 c
    refine q_iconst (v := 0) (dx D_m_copy 90 rfl) (by decide) ?_
    refine q_istore (L' := [some (.ref 34), some (.int x1), some (.int x2), some (.int x3), some (.int x4), some (.int x5), some (.int 0)]) (dx D_m_copy 91 rfl) (by decide) rfl ?_
    exact Wp.mask [true, false, false, true, true, true, true] h
  · replace h := h.2 c
    refine e_aload_n (dx D_m_copy 74 rfl) rfl ?_
    refine e_getR (dx D_m_copy 75 rfl) fl_RX9_19 rfl rfl ?_
    refine e_iload (dx D_m_copy 76 rfl) rfl ?_
    refine e_aload_n (dx D_m_copy 77 rfl) rfl ?_
    refine e_getR (dx D_m_copy 78 rfl) fl_RX9_16 rfl rfl ?_
    refine q_bipush (v := 60) (dx D_m_copy 79 rfl) (by decide) ?_
    refine e_iload_n (dx D_m_copy 80 rfl) rfl ?_
    refine e_imul (dx D_m_copy 81 rfl) ?_
    refine e_iload_n (dx D_m_copy 82 rfl) rfl ?_
    refine e_iadd (dx D_m_copy 83 rfl) ?_
    refine e_iload (dx D_m_copy 84 rfl) rfl ?_
    refine e_iadd (dx D_m_copy 85 rfl) ?_
    obtain ⟨hb1, h⟩ := h
    refine e_iald (dx D_m_copy 86 rfl) rfl hb1 ?_
    obtain ⟨hb2, h⟩ := h
    refine e_iast (dx D_m_copy 87 rfl) rfl hb2 ?_
    refine q_iinc (d := 1) (L' := [some (.ref 34), some (.int x1), some (.int x2), some (.int x3), some (.int x4), some (.int x5), some (.int (x6 + 1))]) (dx D_m_copy 88 rfl) rfl (by decide) (by decide) rfl ?_
    refine e_goto (tgt := 120) (dx D_m_copy 89 rfl) (by decide) ?_
    exact h
set_option maxRecDepth 20000 in
theorem Vm_copy_157 {x3 : Int32} {x4 : Int32} {x5 : Int32} {x6 : Int32} {g : Sg} {Q : Int32 → Sg → Prop} (h : ((x5 ≤ x6 → Q 1 g) ∧ (¬ x5 ≤ x6 → vp_in x6 60 ∧ vp_in (((60 * x3) + x4) + x6) 240 ∧ Hm_copy_157 x3 x4 x5 (x6 + 1) (sgU g 37 (((60 * x3) + x4) + x6).toNatClampNeg (g 38 (x6).toNatClampNeg)) Q))) : Hm_copy_157 x3 x4 x5 x6 g Q := by
  refine e_iload (dx D_m_copy 92 rfl) rfl ?_
  refine e_iload (dx D_m_copy 93 rfl) rfl ?_
  refine e_icmp_ge (tgt := 192) (dx D_m_copy 94 rfl) (by decide) (fun c => ?_) (fun c => ?_)
  · replace h := h.1 c
    refine q_iconst (v := 1) (dx D_m_copy 111 rfl) (by decide) ?_
    exact e_iret (dx D_m_copy 112 rfl) rfl rfl ⟨_, rfl, h⟩
  · replace h := h.2 c
    refine e_aload_n (dx D_m_copy 95 rfl) rfl ?_
    refine e_getR (dx D_m_copy 96 rfl) fl_RX9_16 rfl rfl ?_
    refine q_bipush (v := 60) (dx D_m_copy 97 rfl) (by decide) ?_
    refine e_iload_n (dx D_m_copy 98 rfl) rfl ?_
    refine e_imul (dx D_m_copy 99 rfl) ?_
    refine e_iload (dx D_m_copy 100 rfl) rfl ?_
    refine e_iadd (dx D_m_copy 101 rfl) ?_
    refine e_iload (dx D_m_copy 102 rfl) rfl ?_
    refine e_iadd (dx D_m_copy 103 rfl) ?_
    refine e_aload_n (dx D_m_copy 104 rfl) rfl ?_
    refine e_getR (dx D_m_copy 105 rfl) fl_RX9_19 rfl rfl ?_
    refine e_iload (dx D_m_copy 106 rfl) rfl ?_
    obtain ⟨hb1, h⟩ := h
    refine e_iald (dx D_m_copy 107 rfl) rfl hb1 ?_
    obtain ⟨hb2, h⟩ := h
    refine e_iast (dx D_m_copy 108 rfl) rfl hb2 ?_
    refine q_iinc (d := 1) (L' := [some (.ref 34), none, none, some (.int x3), some (.int x4), some (.int x5), some (.int (x6 + 1))]) (dx D_m_copy 109 rfl) rfl (by decide) (by decide) rfl ?_
    refine e_goto (tgt := 157) (dx D_m_copy 110 rfl) (by decide) ?_
    exact h
abbrev Cm_type (x1 : Int32) (g : Sg) (Q : Int32 → Sg → Prop) : Prop := Ci Mm_type [.ref 34, .int x1] g Q
set_option maxRecDepth 20000 in
theorem Vm_type {x1 : Int32} {g : Sg} {Q : Int32 → Sg → Prop} (h : (((0 ≤ x1 ∧ x1 ≤ 255) → (((g 34 6) = 79 → Q (-4) g) ∧ (¬ (g 34 6) = 79 → vp_in (g 34 6) 79 ∧ Q ((g 34 6) + 1) (sgU (sgU g 39 (g 34 6).toNatClampNeg x1) 34 6 ((g 34 6) + 1))))) ∧ (¬ (0 ≤ x1 ∧ x1 ≤ 255) → Q (-2) g))) : Cm_type x1 g Q := by
  refine Cl.of 0 pl_X9 rfl ?_
  refine e_iload_n (dx D_m_type 0 rfl) rfl ?_
  refine e_i2l (dx D_m_type 1 rfl) ?_
  refine q_lconst (v := 0) (dx D_m_type 2 rfl) (by decide) ?_
  refine e_ldc2 (v := 255) (dx D_m_type 3 rfl) k1089 ?_
  refine e_callSi (Q1 := fun r g' => bP (0 ≤ x1 ∧ x1 ≤ 255) = r ∧ g = g') (rest := []) [.long (Int32.toInt64 x1), .long 0, .long 255] (dx D_m_type 4 rfl) ln_m_type_70 rfl rfl (Nat.le_of_ble_eq_true rfl) (Im_in  ⟨(in32 (a := x1) (b := 0) (c := 255) rfl (by decide) (by decide)).symm, rfl⟩) (fun r g' hh => ?_)
  obtain ⟨rfl, rfl⟩ := hh
  refine e_if_ne (tgt := 15) (dx D_m_type 5 rfl) (by decide) (fun c => ?_) (fun c => ?_)
  · replace h := h.1 (bP_n c)
    refine e_aload_n (dx D_m_type 8 rfl) rfl ?_
    refine e_getI (dx D_m_type 9 rfl) fl_RX9_101 rfl rfl ?_
    refine q_bipush (v := 79) (dx D_m_type 10 rfl) (by decide) ?_
    refine e_icmp_ne (tgt := 27) (dx D_m_type 11 rfl) (by decide) (fun c => ?_) (fun c => ?_)
    · replace h := h.2 c
      refine e_aload_n (dx D_m_type 14 rfl) rfl ?_
      refine e_getR (dx D_m_type 15 rfl) fl_RX9_22 rfl rfl ?_
      refine e_aload_n (dx D_m_type 16 rfl) rfl ?_
      refine e_getI (dx D_m_type 17 rfl) fl_RX9_101 rfl rfl ?_
      refine e_iload_n (dx D_m_type 18 rfl) rfl ?_
      obtain ⟨hb1, h⟩ := h
      refine e_iast (dx D_m_type 19 rfl) rfl hb1 ?_
      refine e_aload_n (dx D_m_type 20 rfl) rfl ?_
      refine e_dup (dx D_m_type 21 rfl) rfl ?_
      refine e_getI (dx D_m_type 22 rfl) fl_RX9_101 rfl rfl ?_
      refine q_iconst (v := 1) (dx D_m_type 23 rfl) (by decide) ?_
      refine e_iadd (dx D_m_type 24 rfl) ?_
      refine e_putI (dx D_m_type 25 rfl) fp_RX9_101 rfl rfl ?_
      refine e_aload_n (dx D_m_type 26 rfl) rfl ?_
      refine e_getI (dx D_m_type 27 rfl) fl_RX9_101 rfl rfl ?_
      exact e_iret (dx D_m_type 28 rfl) rfl rfl ⟨_, rfl, h⟩
    · replace h := h.1 c
      refine q_bipush (v := (-4)) (dx D_m_type 12 rfl) (by decide) ?_
      exact e_iret (dx D_m_type 13 rfl) rfl rfl ⟨_, rfl, h⟩
  · replace h := h.2 (bP_z c)
    refine q_bipush (v := (-2)) (dx D_m_type 6 rfl) (by decide) ?_
    exact e_iret (dx D_m_type 7 rfl) rfl rfl ⟨_, rfl, h⟩
abbrev Cm_wipe (g : Sg) (Q : Int32 → Sg → Prop) : Prop := Ci Mm_wipe [.ref 34] g Q
set_option maxRecDepth 20000 in
theorem Vm_wipe {g : Sg} {Q : Int32 → Sg → Prop} (h : Q (g 34 6) (sgU g 34 6 0)) : Cm_wipe g Q := by
  refine Cl.of 1 pl_X9 rfl ?_
  refine e_aload_n (dx D_m_wipe 0 rfl) rfl ?_
  refine e_getI (dx D_m_wipe 1 rfl) fl_RX9_101 rfl rfl ?_
  refine q_istore_n (L' := [some (.ref 34), some (.int (g 34 6))]) (dx D_m_wipe 2 rfl) (by decide) rfl ?_
  refine e_aload_n (dx D_m_wipe 3 rfl) rfl ?_
  refine q_iconst (v := 0) (dx D_m_wipe 4 rfl) (by decide) ?_
  refine e_putI (dx D_m_wipe 5 rfl) fp_RX9_101 rfl rfl ?_
  refine e_iload_n (dx D_m_wipe 6 rfl) rfl ?_
  exact e_iret (dx D_m_wipe 7 rfl) rfl rfl ⟨_, rfl, h⟩
abbrev Cm_readsPipe (g : Sg) (Q : Int32 → Sg → Prop) : Prop := Ci Mm_readsPipe [.ref 34] g Q
abbrev Hm_readsPipe_13 (x1 : Int32) (g : Sg) (Q : Int32 → Sg → Prop) : Prop := Hi Mm_readsPipe 13 [some (.ref 34), some (.int x1), none, none] [] g Q
abbrev Hm_readsPipe_56 (x1 : Int32) (x2 : Int32) (g : Sg) (Q : Int32 → Sg → Prop) : Prop := Hi Mm_readsPipe 56 [some (.ref 34), some (.int x1), some (.int x2), none] [] g Q
abbrev Hm_readsPipe_82 (x1 : Int32) (x2 : Int32) (s0 : Int64) (s1 : Int64) (s2 : Int64) (g : Sg) (Q : Int32 → Sg → Prop) : Prop := Hi Mm_readsPipe 82 [some (.ref 34), some (.int x1), some (.int x2), none] [.long s0, .long s1, .long s2] g Q
abbrev Hm_readsPipe_114 (x1 : Int32) (x2 : Int32) (x3 : Int32) (g : Sg) (Q : Int32 → Sg → Prop) : Prop := Hi Mm_readsPipe 114 [some (.ref 34), some (.int x1), some (.int x2), some (.int x3)] [] g Q
set_option maxRecDepth 20000 in
theorem Vm_readsPipe {g : Sg} {Q : Int32 → Sg → Prop} (h : (((g 34 8) = 16 → Q 0 g) ∧ (¬ (g 34 8) = 16 → Hm_readsPipe_13 0 g Q))) : Cm_readsPipe g Q := by
  refine Cl.of 3 pl_X9 rfl ?_
  refine e_aload_n (dx D_m_readsPipe 0 rfl) rfl ?_
  refine e_getI (dx D_m_readsPipe 1 rfl) fl_RX9_104 rfl rfl ?_
  refine q_bipush (v := 16) (dx D_m_readsPipe 2 rfl) (by decide) ?_
  refine e_icmp_ne (tgt := 11) (dx D_m_readsPipe 3 rfl) (by decide) (fun c => ?_) (fun c => ?_)
  · replace h := h.2 c
    refine q_iconst (v := 0) (dx D_m_readsPipe 6 rfl) (by decide) ?_
    refine q_istore_n (L' := [some (.ref 34), some (.int 0), none, none]) (dx D_m_readsPipe 7 rfl) (by decide) rfl ?_
    exact h
  · replace h := h.1 c
    refine q_iconst (v := 0) (dx D_m_readsPipe 4 rfl) (by decide) ?_
    exact e_iret (dx D_m_readsPipe 5 rfl) rfl (by decide) ⟨_, rfl, h⟩
set_option maxRecDepth 20000 in
theorem Vm_readsPipe_13 {x1 : Int32} {g : Sg} {Q : Int32 → Sg → Prop} (h : ((4 ≤ x1 → Q 1 (sgU g 34 8 ((g 34 8) + 1))) ∧ (¬ 4 ≤ x1 → (((g 34 6) ≤ (g 34 7) → Hm_readsPipe_56 x1 (-1) g Q) ∧ (¬ (g 34 6) ≤ (g 34 7) → vp_in (g 34 7) 79 ∧ ((2 ≤ x1 → Hm_readsPipe_56 x1 ((g 39 (g 34 7).toNatClampNeg) - 48) g Q) ∧ (¬ 2 ≤ x1 → Hm_readsPipe_56 x1 ((g 39 (g 34 7).toNatClampNeg) - 97) g Q))))))) : Hm_readsPipe_13 x1 g Q := by
  refine e_iload_n (dx D_m_readsPipe 8 rfl) rfl ?_
  refine q_iconst (v := 4) (dx D_m_readsPipe 9 rfl) (by decide) ?_
  refine e_icmp_ge (tgt := 150) (dx D_m_readsPipe 10 rfl) (by decide) (fun c => ?_) (fun c => ?_)
  · replace h := h.1 c
    refine e_aload_n (dx D_m_readsPipe 85 rfl) rfl ?_
    refine e_dup (dx D_m_readsPipe 86 rfl) rfl ?_
    refine e_getI (dx D_m_readsPipe 87 rfl) fl_RX9_104 rfl rfl ?_
    refine q_iconst (v := 1) (dx D_m_readsPipe 88 rfl) (by decide) ?_
    refine e_iadd (dx D_m_readsPipe 89 rfl) ?_
    refine e_putI (dx D_m_readsPipe 90 rfl) fp_RX9_104 rfl rfl ?_
    refine q_iconst (v := 1) (dx D_m_readsPipe 91 rfl) (by decide) ?_
    exact e_iret (dx D_m_readsPipe 92 rfl) rfl (by decide) ⟨_, rfl, h⟩
  · replace h := h.2 c
    refine e_aload_n (dx D_m_readsPipe 11 rfl) rfl ?_
    refine e_getI (dx D_m_readsPipe 12 rfl) fl_RX9_107 rfl rfl ?_
    refine e_aload_n (dx D_m_readsPipe 13 rfl) rfl ?_
    refine e_getI (dx D_m_readsPipe 14 rfl) fl_RX9_101 rfl rfl ?_
    refine e_icmp_ge (tgt := 54) (dx D_m_readsPipe 15 rfl) (by decide) (fun c => ?_) (fun c => ?_)
    · replace h := h.1 c
      refine q_iconst (v := (-1)) (dx D_m_readsPipe 29 rfl) (by decide) ?_
      refine q_istore_n (L' := [some (.ref 34), some (.int x1), some (.int (-1)), none]) (dx D_m_readsPipe 30 rfl) (by decide) rfl ?_
      exact h
    · replace h := h.2 c
      refine e_aload_n (dx D_m_readsPipe 16 rfl) rfl ?_
      refine e_getR (dx D_m_readsPipe 17 rfl) fl_RX9_22 rfl rfl ?_
      refine e_aload_n (dx D_m_readsPipe 18 rfl) rfl ?_
      refine e_getI (dx D_m_readsPipe 19 rfl) fl_RX9_107 rfl rfl ?_
      obtain ⟨hb1, h⟩ := h
      refine e_iald (dx D_m_readsPipe 20 rfl) rfl hb1 ?_
      refine e_iload_n (dx D_m_readsPipe 21 rfl) rfl ?_
      refine q_iconst (v := 2) (dx D_m_readsPipe 22 rfl) (by decide) ?_
      refine e_icmp_ge (tgt := 48) (dx D_m_readsPipe 23 rfl) (by decide) (fun c => ?_) (fun c => ?_)
      · replace h := h.1 c
        refine q_bipush (v := 48) (dx D_m_readsPipe 26 rfl) (by decide) ?_
        refine e_isub (dx D_m_readsPipe 27 rfl) ?_
        refine e_goto (tgt := 55) (dx D_m_readsPipe 28 rfl) (by decide) ?_
        refine q_istore_n (L' := [some (.ref 34), some (.int x1), some (.int ((g 39 (g 34 7).toNatClampNeg) - 48)), none]) (dx D_m_readsPipe 30 rfl) (by decide) rfl ?_
        exact h
      · replace h := h.2 c
        refine q_bipush (v := 97) (dx D_m_readsPipe 24 rfl) (by decide) ?_
        refine e_goto (tgt := 50) (dx D_m_readsPipe 25 rfl) (by decide) ?_
        refine e_isub (dx D_m_readsPipe 27 rfl) ?_
        refine e_goto (tgt := 55) (dx D_m_readsPipe 28 rfl) (by decide) ?_
        refine q_istore_n (L' := [some (.ref 34), some (.int x1), some (.int ((g 39 (g 34 7).toNatClampNeg) - 97)), none]) (dx D_m_readsPipe 30 rfl) (by decide) rfl ?_
        exact h
set_option maxRecDepth 20000 in
theorem Vm_readsPipe_56 {x1 : Int32} {x2 : Int32} {g : Sg} {Q : Int32 → Sg → Prop} (h : ((x1 = 2 → ((2 ≤ x1 → Hm_readsPipe_82 x1 x2 9 1 (Int32.toInt64 x2) g Q) ∧ (¬ 2 ≤ x1 → Hm_readsPipe_82 x1 x2 7 1 (Int32.toInt64 x2) g Q))) ∧ (¬ x1 = 2 → ((2 ≤ x1 → Hm_readsPipe_82 x1 x2 9 0 (Int32.toInt64 x2) g Q) ∧ (¬ 2 ≤ x1 → Hm_readsPipe_82 x1 x2 7 0 (Int32.toInt64 x2) g Q))))) : Hm_readsPipe_56 x1 x2 g Q := by
  refine e_iload_n (dx D_m_readsPipe 31 rfl) rfl ?_
  refine e_i2l (dx D_m_readsPipe 32 rfl) ?_
  refine e_iload_n (dx D_m_readsPipe 33 rfl) rfl ?_
  refine q_iconst (v := 2) (dx D_m_readsPipe 34 rfl) (by decide) ?_
  refine e_icmp_ne (tgt := 67) (dx D_m_readsPipe 35 rfl) (by decide) (fun c => ?_) (fun c => ?_)
  · replace h := h.2 c
    refine q_lconst (v := 0) (dx D_m_readsPipe 38 rfl) (by decide) ?_
    refine e_iload_n (dx D_m_readsPipe 39 rfl) rfl ?_
    refine q_iconst (v := 2) (dx D_m_readsPipe 40 rfl) (by decide) ?_
    refine e_icmp_ge (tgt := 79) (dx D_m_readsPipe 41 rfl) (by decide) (fun c => ?_) (fun c => ?_)
    · replace h := h.1 c
      refine e_ldc2 (v := 9) (dx D_m_readsPipe 44 rfl) k1107 ?_
      exact h
    · replace h := h.2 c
      refine e_ldc2 (v := 7) (dx D_m_readsPipe 42 rfl) k1106 ?_
      refine e_goto (tgt := 82) (dx D_m_readsPipe 43 rfl) (by decide) ?_
      exact h
  · replace h := h.1 c
    refine q_lconst (v := 1) (dx D_m_readsPipe 36 rfl) (by decide) ?_
    refine e_goto (tgt := 68) (dx D_m_readsPipe 37 rfl) (by decide) ?_
    refine e_iload_n (dx D_m_readsPipe 39 rfl) rfl ?_
    refine q_iconst (v := 2) (dx D_m_readsPipe 40 rfl) (by decide) ?_
    refine e_icmp_ge (tgt := 79) (dx D_m_readsPipe 41 rfl) (by decide) (fun c => ?_) (fun c => ?_)
    · replace h := h.1 c
      refine e_ldc2 (v := 9) (dx D_m_readsPipe 44 rfl) k1107 ?_
      exact h
    · replace h := h.2 c
      refine e_ldc2 (v := 7) (dx D_m_readsPipe 42 rfl) k1106 ?_
      refine e_goto (tgt := 82) (dx D_m_readsPipe 43 rfl) (by decide) ?_
      exact h
set_option maxRecDepth 20000 in
theorem Vm_readsPipe_82 {x1 : Int32} {x2 : Int32} {s0 : Int64} {s1 : Int64} {s2 : Int64} {g : Sg} {Q : Int32 → Sg → Prop} (h : (((s1 ≤ s2 ∧ s2 ≤ s0) → ((x1 = 1 → vp_in (4 * (g 34 8)) 64 ∧ ((x2 = (g 40 (4 * (g 34 8)).toNatClampNeg) → Hm_readsPipe_114 x1 x2 0 g Q) ∧ (¬ x2 = (g 40 (4 * (g 34 8)).toNatClampNeg) → Hm_readsPipe_114 x1 x2 1 g Q))) ∧ (¬ x1 = 1 → Hm_readsPipe_114 x1 x2 1 g Q))) ∧ (¬ (s1 ≤ s2 ∧ s2 ≤ s0) → Hm_readsPipe_114 x1 x2 0 g Q))) : Hm_readsPipe_82 x1 x2 s0 s1 s2 g Q := by
  refine e_callSi (Q1 := fun r g' => bP (s1 ≤ s2 ∧ s2 ≤ s0) = r ∧ g = g') (rest := []) [.long s2, .long s1, .long s0] (dx D_m_readsPipe 45 rfl) ln_m_readsPipe_70 rfl rfl (Nat.le_of_ble_eq_true rfl) (Im_in  ⟨rfl, rfl⟩) (fun r g' hh => ?_)
  obtain ⟨rfl, rfl⟩ := hh
  refine e_if_eq (tgt := 112) (dx D_m_readsPipe 46 rfl) (by decide) (fun c => ?_) (fun c => ?_)
  · replace h := h.2 (bP_z c)
    refine q_iconst (v := 0) (dx D_m_readsPipe 61 rfl) (by decide) ?_
    refine q_istore_n (L' := [some (.ref 34), some (.int x1), some (.int x2), some (.int 0)]) (dx D_m_readsPipe 62 rfl) (by decide) rfl ?_
    exact h
  · replace h := h.1 (bP_n c)
    refine e_iload_n (dx D_m_readsPipe 47 rfl) rfl ?_
    refine q_iconst (v := 1) (dx D_m_readsPipe 48 rfl) (by decide) ?_
    refine e_icmp_ne (tgt := 108) (dx D_m_readsPipe 49 rfl) (by decide) (fun c => ?_) (fun c => ?_)
    · replace h := h.2 c
      refine q_iconst (v := 1) (dx D_m_readsPipe 59 rfl) (by decide) ?_
      refine e_goto (tgt := 113) (dx D_m_readsPipe 60 rfl) (by decide) ?_
      refine q_istore_n (L' := [some (.ref 34), some (.int x1), some (.int x2), some (.int 1)]) (dx D_m_readsPipe 62 rfl) (by decide) rfl ?_
      exact h
    · replace h := h.1 c
      refine e_iload_n (dx D_m_readsPipe 50 rfl) rfl ?_
      refine e_aload_n (dx D_m_readsPipe 51 rfl) rfl ?_
      refine e_getR (dx D_m_readsPipe 52 rfl) fl_RX9_25 rfl rfl ?_
      refine q_iconst (v := 4) (dx D_m_readsPipe 53 rfl) (by decide) ?_
      refine e_aload_n (dx D_m_readsPipe 54 rfl) rfl ?_
      refine e_getI (dx D_m_readsPipe 55 rfl) fl_RX9_104 rfl rfl ?_
      refine e_imul (dx D_m_readsPipe 56 rfl) ?_
      obtain ⟨hb1, h⟩ := h
      refine e_iald (dx D_m_readsPipe 57 rfl) rfl hb1 ?_
      refine e_icmp_eq (tgt := 112) (dx D_m_readsPipe 58 rfl) (by decide) (fun c => ?_) (fun c => ?_)
      · replace h := h.1 c
        refine q_iconst (v := 0) (dx D_m_readsPipe 61 rfl) (by decide) ?_
        refine q_istore_n (L' := [some (.ref 34), some (.int x1), some (.int x2), some (.int 0)]) (dx D_m_readsPipe 62 rfl) (by decide) rfl ?_
        exact h
      · replace h := h.2 c
        refine q_iconst (v := 1) (dx D_m_readsPipe 59 rfl) (by decide) ?_
        refine e_goto (tgt := 113) (dx D_m_readsPipe 60 rfl) (by decide) ?_
        refine q_istore_n (L' := [some (.ref 34), some (.int x1), some (.int x2), some (.int 1)]) (dx D_m_readsPipe 62 rfl) (by decide) rfl ?_
        exact h
set_option maxRecDepth 20000 in
theorem Vm_readsPipe_114 {x1 : Int32} {x2 : Int32} {x3 : Int32} {g : Sg} {Q : Int32 → Sg → Prop} (h : ((x3 = 0 → Q 0 g) ∧ (¬ x3 = 0 → vp_in ((4 * (g 34 8)) + x1) 64 ∧ Hm_readsPipe_13 (x1 + 1) (sgU (sgU g 40 ((4 * (g 34 8)) + x1).toNatClampNeg x2) 34 7 ((g 34 7) + 1)) Q))) : Hm_readsPipe_114 x1 x2 x3 g Q := by
  refine e_iload_n (dx D_m_readsPipe 63 rfl) rfl ?_
  refine e_if_ne (tgt := 120) (dx D_m_readsPipe 64 rfl) (by decide) (fun c => ?_) (fun c => ?_)
  · replace h := h.2 c
    refine e_aload_n (dx D_m_readsPipe 67 rfl) rfl ?_
    refine e_getR (dx D_m_readsPipe 68 rfl) fl_RX9_25 rfl rfl ?_
    refine q_iconst (v := 4) (dx D_m_readsPipe 69 rfl) (by decide) ?_
    refine e_aload_n (dx D_m_readsPipe 70 rfl) rfl ?_
    refine e_getI (dx D_m_readsPipe 71 rfl) fl_RX9_104 rfl rfl ?_
    refine e_imul (dx D_m_readsPipe 72 rfl) ?_
    refine e_iload_n (dx D_m_readsPipe 73 rfl) rfl ?_
    refine e_iadd (dx D_m_readsPipe 74 rfl) ?_
    refine e_iload_n (dx D_m_readsPipe 75 rfl) rfl ?_
    obtain ⟨hb1, h⟩ := h
    refine e_iast (dx D_m_readsPipe 76 rfl) rfl hb1 ?_
    refine e_aload_n (dx D_m_readsPipe 77 rfl) rfl ?_
    refine e_dup (dx D_m_readsPipe 78 rfl) rfl ?_
    refine e_getI (dx D_m_readsPipe 79 rfl) fl_RX9_107 rfl rfl ?_
    refine q_iconst (v := 1) (dx D_m_readsPipe 80 rfl) (by decide) ?_
    refine e_iadd (dx D_m_readsPipe 81 rfl) ?_
    refine e_putI (dx D_m_readsPipe 82 rfl) fp_RX9_107 rfl rfl ?_
    refine q_iinc (d := 1) (L' := [some (.ref 34), some (.int (x1 + 1)), some (.int x2), some (.int x3)]) (dx D_m_readsPipe 83 rfl) rfl (by decide) (by decide) rfl ?_
    refine e_goto (tgt := 13) (dx D_m_readsPipe 84 rfl) (by decide) ?_
    exact Wp.mask [true, true, false, false] h
  · replace h := h.1 c
    refine q_iconst (v := 0) (dx D_m_readsPipe 65 rfl) (by decide) ?_
    exact e_iret (dx D_m_readsPipe 66 rfl) rfl (by decide) ⟨_, rfl, h⟩
abbrev Cm_reads (g : Sg) (Q : Int32 → Sg → Prop) : Prop := Ci Mm_reads [.ref 34] g Q
abbrev Hm_reads_23 (x1 : Int32) (g : Sg) (Q : Int32 → Sg → Prop) : Prop := Hi Mm_reads 23 [some (.ref 34), some (.int x1), none] [] g Q
abbrev Hm_reads_53 (x1 : Int32) (x2 : Int32) (g : Sg) (Q : Int32 → Sg → Prop) : Prop := Hi Mm_reads 53 [some (.ref 34), some (.int x1), some (.int x2)] [] g Q
abbrev Hm_reads_85 (x1 : Int32) (g : Sg) (Q : Int32 → Sg → Prop) : Prop := Hi Mm_reads 85 [some (.ref 34), some (.int x1), none] [] g Q
set_option maxRecDepth 20000 in
theorem Vm_reads {g : Sg} {Q : Int32 → Sg → Prop} (h : (((g 34 6) ≤ 0 → Hm_reads_23 0 (sgU (sgU g 34 7 0) 34 8 0) Q) ∧ (¬ (g 34 6) ≤ 0 → Hm_reads_23 1 (sgU (sgU g 34 7 0) 34 8 0) Q))) : Cm_reads g Q := by
  refine Cl.of 2 pl_X9 rfl ?_
  refine e_aload_n (dx D_m_reads 0 rfl) rfl ?_
  refine q_iconst (v := 0) (dx D_m_reads 1 rfl) (by decide) ?_
  refine e_putI (dx D_m_reads 2 rfl) fp_RX9_107 rfl rfl ?_
  refine e_aload_n (dx D_m_reads 3 rfl) rfl ?_
  refine q_iconst (v := 0) (dx D_m_reads 4 rfl) (by decide) ?_
  refine e_putI (dx D_m_reads 5 rfl) fp_RX9_104 rfl rfl ?_
  refine e_aload_n (dx D_m_reads 6 rfl) rfl ?_
  refine e_getI (dx D_m_reads 7 rfl) fl_RX9_101 rfl rfl ?_
  refine e_if_le (tgt := 21) (dx D_m_reads 8 rfl) (by decide) (fun c => ?_) (fun c => ?_)
  · replace h := h.1 c
    refine q_iconst (v := 0) (dx D_m_reads 11 rfl) (by decide) ?_
    refine q_istore_n (L' := [some (.ref 34), some (.int 0), none]) (dx D_m_reads 12 rfl) (by decide) rfl ?_
    exact h
  · replace h := h.2 c
    refine q_iconst (v := 1) (dx D_m_reads 9 rfl) (by decide) ?_
    refine e_goto (tgt := 22) (dx D_m_reads 10 rfl) (by decide) ?_
    refine q_istore_n (L' := [some (.ref 34), some (.int 1), none]) (dx D_m_reads 12 rfl) (by decide) rfl ?_
    exact h
set_option maxRecDepth 20000 in
theorem Vm_reads_23 {x1 : Int32} {g : Sg} {Q : Int32 → Sg → Prop} (h : ((x1 = 0 → Q (-1) g) ∧ (¬ x1 = 0 → Cm_readsPipe g (fun r2 g1 => ((r2 = 0 → Hm_reads_53 0 r2 g1 Q) ∧ (¬ r2 = 0 → (((g1 34 6) ≤ (g1 34 7) → Hm_reads_53 0 r2 g1 Q) ∧ (¬ (g1 34 6) ≤ (g1 34 7) → Hm_reads_53 1 r2 g1 Q)))))))) : Hm_reads_23 x1 g Q := by
  refine e_iload_n (dx D_m_reads 13 rfl) rfl ?_
  refine e_if_eq (tgt := 106) (dx D_m_reads 14 rfl) (by decide) (fun c => ?_) (fun c => ?_)
  · replace h := h.1 c
    refine q_iconst (v := (-1)) (dx D_m_reads 57 rfl) (by decide) ?_
    exact e_iret (dx D_m_reads 58 rfl) rfl rfl ⟨_, rfl, h⟩
  · replace h := h.2 c
    refine e_aload_n (dx D_m_reads 15 rfl) rfl ?_
    refine e_callVi (rest := []) [] (dx D_m_reads 16 rfl) ln_m_reads_114 rfl rfl rfl (Nat.le_of_ble_eq_true rfl) h (fun r2 g1 h => ?_)
    refine q_istore_n (L' := [some (.ref 34), some (.int x1), some (.int r2)]) (dx D_m_reads 17 rfl) (by decide) rfl ?_
    refine e_iload_n (dx D_m_reads 18 rfl) rfl ?_
    refine e_if_eq (tgt := 51) (dx D_m_reads 19 rfl) (by decide) (fun c => ?_) (fun c => ?_)
    · replace h := h.1 c
      refine q_iconst (v := 0) (dx D_m_reads 27 rfl) (by decide) ?_
      refine q_istore_n (L' := [some (.ref 34), some (.int 0), some (.int r2)]) (dx D_m_reads 28 rfl) (by decide) rfl ?_
      exact h
    · replace h := h.2 c
      refine e_aload_n (dx D_m_reads 20 rfl) rfl ?_
      refine e_getI (dx D_m_reads 21 rfl) fl_RX9_107 rfl rfl ?_
      refine e_aload_n (dx D_m_reads 22 rfl) rfl ?_
      refine e_getI (dx D_m_reads 23 rfl) fl_RX9_101 rfl rfl ?_
      refine e_icmp_ge (tgt := 51) (dx D_m_reads 24 rfl) (by decide) (fun c => ?_) (fun c => ?_)
      · replace h := h.1 c
        refine q_iconst (v := 0) (dx D_m_reads 27 rfl) (by decide) ?_
        refine q_istore_n (L' := [some (.ref 34), some (.int 0), some (.int r2)]) (dx D_m_reads 28 rfl) (by decide) rfl ?_
        exact h
      · replace h := h.2 c
        refine q_iconst (v := 1) (dx D_m_reads 25 rfl) (by decide) ?_
        refine e_goto (tgt := 52) (dx D_m_reads 26 rfl) (by decide) ?_
        refine q_istore_n (L' := [some (.ref 34), some (.int 1), some (.int r2)]) (dx D_m_reads 28 rfl) (by decide) rfl ?_
        exact h
set_option maxRecDepth 20000 in
theorem Vm_reads_53 {x1 : Int32} {x2 : Int32} {g : Sg} {Q : Int32 → Sg → Prop} (h : ((x2 = 0 → Q (g 34 7) (sgU g 34 8 0)) ∧ (¬ x2 = 0 → ((x1 = 0 → Hm_reads_85 x1 g Q) ∧ (¬ x1 = 0 → vp_in (g 34 7) 79 ∧ (((g 39 (g 34 7).toNatClampNeg) = 59 → Hm_reads_85 x1 g Q) ∧ (¬ (g 39 (g 34 7).toNatClampNeg) = 59 → Q (g 34 7) (sgU g 34 8 0)))))))) : Hm_reads_53 x1 x2 g Q := by
  refine e_iload_n (dx D_m_reads 29 rfl) rfl ?_
  refine e_if_eq (tgt := 75) (dx D_m_reads 30 rfl) (by decide) (fun c => ?_) (fun c => ?_)
  · replace h := h.1 c
    refine e_aload_n (dx D_m_reads 40 rfl) rfl ?_
    refine q_iconst (v := 0) (dx D_m_reads 41 rfl) (by decide) ?_
    refine e_putI (dx D_m_reads 42 rfl) fp_RX9_104 rfl rfl ?_
    refine e_aload_n (dx D_m_reads 43 rfl) rfl ?_
    refine e_getI (dx D_m_reads 44 rfl) fl_RX9_107 rfl rfl ?_
    exact e_iret (dx D_m_reads 45 rfl) rfl rfl ⟨_, rfl, h⟩
  · replace h := h.2 c
    refine e_iload_n (dx D_m_reads 31 rfl) rfl ?_
    refine e_if_eq (tgt := 85) (dx D_m_reads 32 rfl) (by decide) (fun c => ?_) (fun c => ?_)
    · replace h := h.1 c
      exact Wp.mask [true, true, false] h
    · replace h := h.2 c
      refine e_aload_n (dx D_m_reads 33 rfl) rfl ?_
      refine e_getR (dx D_m_reads 34 rfl) fl_RX9_22 rfl rfl ?_
      refine e_aload_n (dx D_m_reads 35 rfl) rfl ?_
      refine e_getI (dx D_m_reads 36 rfl) fl_RX9_107 rfl rfl ?_
      obtain ⟨hb1, h⟩ := h
      refine e_iald (dx D_m_reads 37 rfl) rfl hb1 ?_
      refine q_bipush (v := 59) (dx D_m_reads 38 rfl) (by decide) ?_
      refine e_icmp_eq (tgt := 85) (dx D_m_reads 39 rfl) (by decide) (fun c => ?_) (fun c => ?_)
      · replace h := h.1 c
        exact Wp.mask [true, true, false] h
      · replace h := h.2 c
        refine e_aload_n (dx D_m_reads 40 rfl) rfl ?_
        refine q_iconst (v := 0) (dx D_m_reads 41 rfl) (by decide) ?_
        refine e_putI (dx D_m_reads 42 rfl) fp_RX9_104 rfl rfl ?_
        refine e_aload_n (dx D_m_reads 43 rfl) rfl ?_
        refine e_getI (dx D_m_reads 44 rfl) fl_RX9_107 rfl rfl ?_
        exact e_iret (dx D_m_reads 45 rfl) rfl rfl ⟨_, rfl, h⟩
set_option maxRecDepth 20000 in
theorem Vm_reads_85 {x1 : Int32} {g : Sg} {Q : Int32 → Sg → Prop} (h : ((x1 = 0 → Hm_reads_23 x1 (sgU g 34 7 ((g 34 7) + 0)) Q) ∧ (¬ x1 = 0 → Hm_reads_23 x1 (sgU g 34 7 ((g 34 7) + 1)) Q))) : Hm_reads_85 x1 g Q := by
  refine e_aload_n (dx D_m_reads 46 rfl) rfl ?_
  refine e_dup (dx D_m_reads 47 rfl) rfl ?_
  refine e_getI (dx D_m_reads 48 rfl) fl_RX9_107 rfl rfl ?_
  refine e_iload_n (dx D_m_reads 49 rfl) rfl ?_
  refine e_if_eq (tgt := 98) (dx D_m_reads 50 rfl) (by decide) (fun c => ?_) (fun c => ?_)
  · replace h := h.1 c
    refine q_iconst (v := 0) (dx D_m_reads 53 rfl) (by decide) ?_
    refine e_iadd (dx D_m_reads 54 rfl) ?_
    refine e_putI (dx D_m_reads 55 rfl) fp_RX9_107 rfl rfl ?_
    refine e_goto (tgt := 23) (dx D_m_reads 56 rfl) (by decide) ?_
    exact h
  · replace h := h.2 c
    refine q_iconst (v := 1) (dx D_m_reads 51 rfl) (by decide) ?_
    refine e_goto (tgt := 99) (dx D_m_reads 52 rfl) (by decide) ?_
    refine e_iadd (dx D_m_reads 54 rfl) ?_
    refine e_putI (dx D_m_reads 55 rfl) fp_RX9_107 rfl rfl ?_
    refine e_goto (tgt := 23) (dx D_m_reads 56 rfl) (by decide) ?_
    exact h
abbrev Cm_fault (g : Sg) (Q : Int32 → Sg → Prop) : Prop := Ci Mm_fault [.ref 34] g Q
set_option maxRecDepth 20000 in
theorem Vm_fault {g : Sg} {Q : Int32 → Sg → Prop} (h : Cm_reads g (fun r2 g1 => Q r2 g1)) : Cm_fault g Q := by
  refine Cl.of 0 pl_X9 rfl ?_
  refine e_aload_n (dx D_m_fault 0 rfl) rfl ?_
  refine e_callVi (rest := []) [] (dx D_m_fault 1 rfl) ln_m_fault_118 rfl rfl rfl (Nat.le_of_ble_eq_true rfl) h (fun r2 g1 h => ?_)
  exact e_iret (dx D_m_fault 2 rfl) rfl rfl ⟨_, rfl, h⟩
abbrev Cm_undo (g : Sg) (Q : Int32 → Sg → Prop) : Prop := Ci Mm_undo [.ref 34] g Q
set_option maxRecDepth 20000 in
theorem Vm_undo {g : Sg} {Q : Int32 → Sg → Prop} (h : Cm_reads g (fun r2 g1 => (((g1 34 8) = 0 → Q (-3) g1) ∧ (¬ (g1 34 8) = 0 → (((g1 34 8) = 1 → Q ((g1 34 8) - 1) (sgU g1 34 6 ((g1 34 6) - 4))) ∧ (¬ (g1 34 8) = 1 → Q ((g1 34 8) - 1) (sgU g1 34 6 ((g1 34 6) - 5)))))))) : Cm_undo g Q := by
  refine Cl.of 0 pl_X9 rfl ?_
  refine e_aload_n (dx D_m_undo 0 rfl) rfl ?_
  refine e_callVi (rest := []) [] (dx D_m_undo 1 rfl) ln_m_undo_118 rfl rfl rfl (Nat.le_of_ble_eq_true rfl) h (fun r2 g1 h => ?_)
  refine e_pop (dx D_m_undo 2 rfl) rfl ?_
  refine e_aload_n (dx D_m_undo 3 rfl) rfl ?_
  refine e_getI (dx D_m_undo 4 rfl) fl_RX9_104 rfl rfl ?_
  refine e_if_ne (tgt := 15) (dx D_m_undo 5 rfl) (by decide) (fun c => ?_) (fun c => ?_)
  · replace h := h.2 c
    refine e_aload_n (dx D_m_undo 8 rfl) rfl ?_
    refine e_dup (dx D_m_undo 9 rfl) rfl ?_
    refine e_getI (dx D_m_undo 10 rfl) fl_RX9_101 rfl rfl ?_
    refine e_aload_n (dx D_m_undo 11 rfl) rfl ?_
    refine e_getI (dx D_m_undo 12 rfl) fl_RX9_104 rfl rfl ?_
    refine q_iconst (v := 1) (dx D_m_undo 13 rfl) (by decide) ?_
    refine e_icmp_ne (tgt := 32) (dx D_m_undo 14 rfl) (by decide) (fun c => ?_) (fun c => ?_)
    · replace h := h.2 c
      refine q_iconst (v := 5) (dx D_m_undo 17 rfl) (by decide) ?_
      refine e_isub (dx D_m_undo 18 rfl) ?_
      refine e_putI (dx D_m_undo 19 rfl) fp_RX9_101 rfl rfl ?_
      refine e_aload_n (dx D_m_undo 20 rfl) rfl ?_
      refine e_getI (dx D_m_undo 21 rfl) fl_RX9_104 rfl rfl ?_
      refine q_iconst (v := 1) (dx D_m_undo 22 rfl) (by decide) ?_
      refine e_isub (dx D_m_undo 23 rfl) ?_
      exact e_iret (dx D_m_undo 24 rfl) rfl rfl ⟨_, rfl, h⟩
    · replace h := h.1 c
      refine q_iconst (v := 4) (dx D_m_undo 15 rfl) (by decide) ?_
      refine e_goto (tgt := 33) (dx D_m_undo 16 rfl) (by decide) ?_
      refine e_isub (dx D_m_undo 18 rfl) ?_
      refine e_putI (dx D_m_undo 19 rfl) fp_RX9_101 rfl rfl ?_
      refine e_aload_n (dx D_m_undo 20 rfl) rfl ?_
      refine e_getI (dx D_m_undo 21 rfl) fl_RX9_104 rfl rfl ?_
      refine q_iconst (v := 1) (dx D_m_undo 22 rfl) (by decide) ?_
      refine e_isub (dx D_m_undo 23 rfl) ?_
      exact e_iret (dx D_m_undo 24 rfl) rfl rfl ⟨_, rfl, h⟩
  · replace h := h.1 c
    refine q_bipush (v := (-3)) (dx D_m_undo 6 rfl) (by decide) ?_
    exact e_iret (dx D_m_undo 7 rfl) rfl rfl ⟨_, rfl, h⟩
abbrev Cm_set (x1 : Int32) (x2 : Int32) (g : Sg) (Q : Int32 → Sg → Prop) : Prop := Ci Mm_set [.ref 34, .int x1, .int x2] g Q
set_option maxRecDepth 20000 in
theorem Vm_set {x1 : Int32} {x2 : Int32} {g : Sg} {Q : Int32 → Sg → Prop} (h : (((0 ≤ x1 ∧ x1 ≤ 2) → ((x1 = 0 → ((x1 = 0 → (((0 ≤ x2 ∧ x2 ≤ 65535) → vp_in x1 3 ∧ vp_in x1 3 ∧ Q (g 41 (x1).toNatClampNeg) (sgU g 41 (x1).toNatClampNeg x2)) ∧ (¬ (0 ≤ x2 ∧ x2 ≤ 65535) → Q (-2) g))) ∧ (¬ x1 = 0 → ((x1 = 1 → (((0 ≤ x2 ∧ x2 ≤ 4) → vp_in x1 3 ∧ vp_in x1 3 ∧ Q (g 41 (x1).toNatClampNeg) (sgU g 41 (x1).toNatClampNeg x2)) ∧ (¬ (0 ≤ x2 ∧ x2 ≤ 4) → Q (-2) g))) ∧ (¬ x1 = 1 → (((0 ≤ x2 ∧ x2 ≤ 999) → vp_in x1 3 ∧ vp_in x1 3 ∧ Q (g 41 (x1).toNatClampNeg) (sgU g 41 (x1).toNatClampNeg x2)) ∧ (¬ (0 ≤ x2 ∧ x2 ≤ 999) → Q (-2) g))))))) ∧ (¬ x1 = 0 → ((x1 = 0 → (((1 ≤ x2 ∧ x2 ≤ 65535) → vp_in x1 3 ∧ vp_in x1 3 ∧ Q (g 41 (x1).toNatClampNeg) (sgU g 41 (x1).toNatClampNeg x2)) ∧ (¬ (1 ≤ x2 ∧ x2 ≤ 65535) → Q (-2) g))) ∧ (¬ x1 = 0 → ((x1 = 1 → (((1 ≤ x2 ∧ x2 ≤ 4) → vp_in x1 3 ∧ vp_in x1 3 ∧ Q (g 41 (x1).toNatClampNeg) (sgU g 41 (x1).toNatClampNeg x2)) ∧ (¬ (1 ≤ x2 ∧ x2 ≤ 4) → Q (-2) g))) ∧ (¬ x1 = 1 → (((1 ≤ x2 ∧ x2 ≤ 999) → vp_in x1 3 ∧ vp_in x1 3 ∧ Q (g 41 (x1).toNatClampNeg) (sgU g 41 (x1).toNatClampNeg x2)) ∧ (¬ (1 ≤ x2 ∧ x2 ≤ 999) → Q (-2) g))))))))) ∧ (¬ (0 ≤ x1 ∧ x1 ≤ 2) → Q (-2) g))) : Cm_set x1 x2 g Q := by
  refine Cl.of 1 pl_X9 rfl ?_
  refine e_iload_n (dx D_m_set 0 rfl) rfl ?_
  refine e_i2l (dx D_m_set 1 rfl) ?_
  refine q_lconst (v := 0) (dx D_m_set 2 rfl) (by decide) ?_
  refine e_ldc2 (v := 2) (dx D_m_set 3 rfl) k1056 ?_
  refine e_callSi (Q1 := fun r g' => bP (0 ≤ x1 ∧ x1 ≤ 2) = r ∧ g = g') (rest := []) [.long (Int32.toInt64 x1), .long 0, .long 2] (dx D_m_set 4 rfl) ln_m_set_70 rfl rfl (Nat.le_of_ble_eq_true rfl) (Im_in  ⟨(in32 (a := x1) (b := 0) (c := 2) rfl (by decide) (by decide)).symm, rfl⟩) (fun r g' hh => ?_)
  obtain ⟨rfl, rfl⟩ := hh
  refine e_if_eq (tgt := 53) (dx D_m_set 5 rfl) (by decide) (fun c => ?_) (fun c => ?_)
  · replace h := h.2 (bP_z c)
    refine q_bipush (v := (-2)) (dx D_m_set 25 rfl) (by decide) ?_
    exact e_iret (dx D_m_set 26 rfl) rfl rfl ⟨_, rfl, h⟩
  · replace h := h.1 (bP_n c)
    refine e_iload_n (dx D_m_set 6 rfl) rfl ?_
    refine e_i2l (dx D_m_set 7 rfl) ?_
    refine e_iload_n (dx D_m_set 8 rfl) rfl ?_
    refine e_if_ne (tgt := 22) (dx D_m_set 9 rfl) (by decide) (fun c => ?_) (fun c => ?_)
    · replace h := h.2 c
      refine q_lconst (v := 1) (dx D_m_set 12 rfl) (by decide) ?_
      refine e_iload_n (dx D_m_set 13 rfl) rfl ?_
      refine e_if_ne (tgt := 33) (dx D_m_set 14 rfl) (by decide) (fun c => ?_) (fun c => ?_)
      · replace h := h.2 c
        refine e_iload_n (dx D_m_set 17 rfl) rfl ?_
        refine q_iconst (v := 1) (dx D_m_set 18 rfl) (by decide) ?_
        refine e_icmp_ne (tgt := 44) (dx D_m_set 19 rfl) (by decide) (fun c => ?_) (fun c => ?_)
        · replace h := h.2 c
          refine e_ldc2 (v := 999) (dx D_m_set 22 rfl) k1118 ?_
          refine e_callSi (Q1 := fun r g' => bP (1 ≤ x2 ∧ x2 ≤ 999) = r ∧ g = g') (rest := []) [.long (Int32.toInt64 x2), .long 1, .long 999] (dx D_m_set 23 rfl) ln_m_set_70 rfl rfl (Nat.le_of_ble_eq_true rfl) (Im_in  ⟨(in32 (a := x2) (b := 1) (c := 999) rfl (by decide) (by decide)).symm, rfl⟩) (fun r g' hh => ?_)
          obtain ⟨rfl, rfl⟩ := hh
          refine e_if_ne (tgt := 56) (dx D_m_set 24 rfl) (by decide) (fun c => ?_) (fun c => ?_)
          · replace h := h.1 (bP_n c)
            refine e_aload_n (dx D_m_set 27 rfl) rfl ?_
            refine e_getR (dx D_m_set 28 rfl) fl_RX9_28 rfl rfl ?_
            refine e_iload_n (dx D_m_set 29 rfl) rfl ?_
            obtain ⟨hb1, h⟩ := h
            refine e_iald (dx D_m_set 30 rfl) rfl hb1 ?_
            refine q_istore_n (L' := [some (.ref 34), some (.int x1), some (.int x2), some (.int (g 41 (x1).toNatClampNeg))]) (dx D_m_set 31 rfl) (by decide) rfl ?_
            refine e_aload_n (dx D_m_set 32 rfl) rfl ?_
            refine e_getR (dx D_m_set 33 rfl) fl_RX9_28 rfl rfl ?_
            refine e_iload_n (dx D_m_set 34 rfl) rfl ?_
            refine e_iload_n (dx D_m_set 35 rfl) rfl ?_
            obtain ⟨hb2, h⟩ := h
            refine e_iast (dx D_m_set 36 rfl) rfl hb2 ?_
            refine e_iload_n (dx D_m_set 37 rfl) rfl ?_
            exact e_iret (dx D_m_set 38 rfl) rfl rfl ⟨_, rfl, h⟩
          · replace h := h.2 (bP_z c)
            refine q_bipush (v := (-2)) (dx D_m_set 25 rfl) (by decide) ?_
            exact e_iret (dx D_m_set 26 rfl) rfl rfl ⟨_, rfl, h⟩
        · replace h := h.1 c
          refine e_ldc2 (v := 4) (dx D_m_set 20 rfl) k1117 ?_
          refine e_goto (tgt := 47) (dx D_m_set 21 rfl) (by decide) ?_
          refine e_callSi (Q1 := fun r g' => bP (1 ≤ x2 ∧ x2 ≤ 4) = r ∧ g = g') (rest := []) [.long (Int32.toInt64 x2), .long 1, .long 4] (dx D_m_set 23 rfl) ln_m_set_70 rfl rfl (Nat.le_of_ble_eq_true rfl) (Im_in  ⟨(in32 (a := x2) (b := 1) (c := 4) rfl (by decide) (by decide)).symm, rfl⟩) (fun r g' hh => ?_)
          obtain ⟨rfl, rfl⟩ := hh
          refine e_if_ne (tgt := 56) (dx D_m_set 24 rfl) (by decide) (fun c => ?_) (fun c => ?_)
          · replace h := h.1 (bP_n c)
            refine e_aload_n (dx D_m_set 27 rfl) rfl ?_
            refine e_getR (dx D_m_set 28 rfl) fl_RX9_28 rfl rfl ?_
            refine e_iload_n (dx D_m_set 29 rfl) rfl ?_
            obtain ⟨hb3, h⟩ := h
            refine e_iald (dx D_m_set 30 rfl) rfl hb3 ?_
            refine q_istore_n (L' := [some (.ref 34), some (.int x1), some (.int x2), some (.int (g 41 (x1).toNatClampNeg))]) (dx D_m_set 31 rfl) (by decide) rfl ?_
            refine e_aload_n (dx D_m_set 32 rfl) rfl ?_
            refine e_getR (dx D_m_set 33 rfl) fl_RX9_28 rfl rfl ?_
            refine e_iload_n (dx D_m_set 34 rfl) rfl ?_
            refine e_iload_n (dx D_m_set 35 rfl) rfl ?_
            obtain ⟨hb4, h⟩ := h
            refine e_iast (dx D_m_set 36 rfl) rfl hb4 ?_
            refine e_iload_n (dx D_m_set 37 rfl) rfl ?_
            exact e_iret (dx D_m_set 38 rfl) rfl rfl ⟨_, rfl, h⟩
          · replace h := h.2 (bP_z c)
            refine q_bipush (v := (-2)) (dx D_m_set 25 rfl) (by decide) ?_
            exact e_iret (dx D_m_set 26 rfl) rfl rfl ⟨_, rfl, h⟩
      · replace h := h.1 c
        refine e_ldc2 (v := 65535) (dx D_m_set 15 rfl) k1116 ?_
        refine e_goto (tgt := 47) (dx D_m_set 16 rfl) (by decide) ?_
        refine e_callSi (Q1 := fun r g' => bP (1 ≤ x2 ∧ x2 ≤ 65535) = r ∧ g = g') (rest := []) [.long (Int32.toInt64 x2), .long 1, .long 65535] (dx D_m_set 23 rfl) ln_m_set_70 rfl rfl (Nat.le_of_ble_eq_true rfl) (Im_in  ⟨(in32 (a := x2) (b := 1) (c := 65535) rfl (by decide) (by decide)).symm, rfl⟩) (fun r g' hh => ?_)
        obtain ⟨rfl, rfl⟩ := hh
        refine e_if_ne (tgt := 56) (dx D_m_set 24 rfl) (by decide) (fun c => ?_) (fun c => ?_)
        · replace h := h.1 (bP_n c)
          refine e_aload_n (dx D_m_set 27 rfl) rfl ?_
          refine e_getR (dx D_m_set 28 rfl) fl_RX9_28 rfl rfl ?_
          refine e_iload_n (dx D_m_set 29 rfl) rfl ?_
          obtain ⟨hb5, h⟩ := h
          refine e_iald (dx D_m_set 30 rfl) rfl hb5 ?_
          refine q_istore_n (L' := [some (.ref 34), some (.int x1), some (.int x2), some (.int (g 41 (x1).toNatClampNeg))]) (dx D_m_set 31 rfl) (by decide) rfl ?_
          refine e_aload_n (dx D_m_set 32 rfl) rfl ?_
          refine e_getR (dx D_m_set 33 rfl) fl_RX9_28 rfl rfl ?_
          refine e_iload_n (dx D_m_set 34 rfl) rfl ?_
          refine e_iload_n (dx D_m_set 35 rfl) rfl ?_
          obtain ⟨hb6, h⟩ := h
          refine e_iast (dx D_m_set 36 rfl) rfl hb6 ?_
          refine e_iload_n (dx D_m_set 37 rfl) rfl ?_
          exact e_iret (dx D_m_set 38 rfl) rfl rfl ⟨_, rfl, h⟩
        · replace h := h.2 (bP_z c)
          refine q_bipush (v := (-2)) (dx D_m_set 25 rfl) (by decide) ?_
          exact e_iret (dx D_m_set 26 rfl) rfl rfl ⟨_, rfl, h⟩
    · replace h := h.1 c
      refine q_lconst (v := 0) (dx D_m_set 10 rfl) (by decide) ?_
      refine e_goto (tgt := 23) (dx D_m_set 11 rfl) (by decide) ?_
      refine e_iload_n (dx D_m_set 13 rfl) rfl ?_
      refine e_if_ne (tgt := 33) (dx D_m_set 14 rfl) (by decide) (fun c => ?_) (fun c => ?_)
      · replace h := h.2 c
        refine e_iload_n (dx D_m_set 17 rfl) rfl ?_
        refine q_iconst (v := 1) (dx D_m_set 18 rfl) (by decide) ?_
        refine e_icmp_ne (tgt := 44) (dx D_m_set 19 rfl) (by decide) (fun c => ?_) (fun c => ?_)
        · replace h := h.2 c
          refine e_ldc2 (v := 999) (dx D_m_set 22 rfl) k1118 ?_
          refine e_callSi (Q1 := fun r g' => bP (0 ≤ x2 ∧ x2 ≤ 999) = r ∧ g = g') (rest := []) [.long (Int32.toInt64 x2), .long 0, .long 999] (dx D_m_set 23 rfl) ln_m_set_70 rfl rfl (Nat.le_of_ble_eq_true rfl) (Im_in  ⟨(in32 (a := x2) (b := 0) (c := 999) rfl (by decide) (by decide)).symm, rfl⟩) (fun r g' hh => ?_)
          obtain ⟨rfl, rfl⟩ := hh
          refine e_if_ne (tgt := 56) (dx D_m_set 24 rfl) (by decide) (fun c => ?_) (fun c => ?_)
          · replace h := h.1 (bP_n c)
            refine e_aload_n (dx D_m_set 27 rfl) rfl ?_
            refine e_getR (dx D_m_set 28 rfl) fl_RX9_28 rfl rfl ?_
            refine e_iload_n (dx D_m_set 29 rfl) rfl ?_
            obtain ⟨hb7, h⟩ := h
            refine e_iald (dx D_m_set 30 rfl) rfl hb7 ?_
            refine q_istore_n (L' := [some (.ref 34), some (.int x1), some (.int x2), some (.int (g 41 (x1).toNatClampNeg))]) (dx D_m_set 31 rfl) (by decide) rfl ?_
            refine e_aload_n (dx D_m_set 32 rfl) rfl ?_
            refine e_getR (dx D_m_set 33 rfl) fl_RX9_28 rfl rfl ?_
            refine e_iload_n (dx D_m_set 34 rfl) rfl ?_
            refine e_iload_n (dx D_m_set 35 rfl) rfl ?_
            obtain ⟨hb8, h⟩ := h
            refine e_iast (dx D_m_set 36 rfl) rfl hb8 ?_
            refine e_iload_n (dx D_m_set 37 rfl) rfl ?_
            exact e_iret (dx D_m_set 38 rfl) rfl rfl ⟨_, rfl, h⟩
          · replace h := h.2 (bP_z c)
            refine q_bipush (v := (-2)) (dx D_m_set 25 rfl) (by decide) ?_
            exact e_iret (dx D_m_set 26 rfl) rfl rfl ⟨_, rfl, h⟩
        · replace h := h.1 c
          refine e_ldc2 (v := 4) (dx D_m_set 20 rfl) k1117 ?_
          refine e_goto (tgt := 47) (dx D_m_set 21 rfl) (by decide) ?_
          refine e_callSi (Q1 := fun r g' => bP (0 ≤ x2 ∧ x2 ≤ 4) = r ∧ g = g') (rest := []) [.long (Int32.toInt64 x2), .long 0, .long 4] (dx D_m_set 23 rfl) ln_m_set_70 rfl rfl (Nat.le_of_ble_eq_true rfl) (Im_in  ⟨(in32 (a := x2) (b := 0) (c := 4) rfl (by decide) (by decide)).symm, rfl⟩) (fun r g' hh => ?_)
          obtain ⟨rfl, rfl⟩ := hh
          refine e_if_ne (tgt := 56) (dx D_m_set 24 rfl) (by decide) (fun c => ?_) (fun c => ?_)
          · replace h := h.1 (bP_n c)
            refine e_aload_n (dx D_m_set 27 rfl) rfl ?_
            refine e_getR (dx D_m_set 28 rfl) fl_RX9_28 rfl rfl ?_
            refine e_iload_n (dx D_m_set 29 rfl) rfl ?_
            obtain ⟨hb9, h⟩ := h
            refine e_iald (dx D_m_set 30 rfl) rfl hb9 ?_
            refine q_istore_n (L' := [some (.ref 34), some (.int x1), some (.int x2), some (.int (g 41 (x1).toNatClampNeg))]) (dx D_m_set 31 rfl) (by decide) rfl ?_
            refine e_aload_n (dx D_m_set 32 rfl) rfl ?_
            refine e_getR (dx D_m_set 33 rfl) fl_RX9_28 rfl rfl ?_
            refine e_iload_n (dx D_m_set 34 rfl) rfl ?_
            refine e_iload_n (dx D_m_set 35 rfl) rfl ?_
            obtain ⟨hb10, h⟩ := h
            refine e_iast (dx D_m_set 36 rfl) rfl hb10 ?_
            refine e_iload_n (dx D_m_set 37 rfl) rfl ?_
            exact e_iret (dx D_m_set 38 rfl) rfl rfl ⟨_, rfl, h⟩
          · replace h := h.2 (bP_z c)
            refine q_bipush (v := (-2)) (dx D_m_set 25 rfl) (by decide) ?_
            exact e_iret (dx D_m_set 26 rfl) rfl rfl ⟨_, rfl, h⟩
      · replace h := h.1 c
        refine e_ldc2 (v := 65535) (dx D_m_set 15 rfl) k1116 ?_
        refine e_goto (tgt := 47) (dx D_m_set 16 rfl) (by decide) ?_
        refine e_callSi (Q1 := fun r g' => bP (0 ≤ x2 ∧ x2 ≤ 65535) = r ∧ g = g') (rest := []) [.long (Int32.toInt64 x2), .long 0, .long 65535] (dx D_m_set 23 rfl) ln_m_set_70 rfl rfl (Nat.le_of_ble_eq_true rfl) (Im_in  ⟨(in32 (a := x2) (b := 0) (c := 65535) rfl (by decide) (by decide)).symm, rfl⟩) (fun r g' hh => ?_)
        obtain ⟨rfl, rfl⟩ := hh
        refine e_if_ne (tgt := 56) (dx D_m_set 24 rfl) (by decide) (fun c => ?_) (fun c => ?_)
        · replace h := h.1 (bP_n c)
          refine e_aload_n (dx D_m_set 27 rfl) rfl ?_
          refine e_getR (dx D_m_set 28 rfl) fl_RX9_28 rfl rfl ?_
          refine e_iload_n (dx D_m_set 29 rfl) rfl ?_
          obtain ⟨hb11, h⟩ := h
          refine e_iald (dx D_m_set 30 rfl) rfl hb11 ?_
          refine q_istore_n (L' := [some (.ref 34), some (.int x1), some (.int x2), some (.int (g 41 (x1).toNatClampNeg))]) (dx D_m_set 31 rfl) (by decide) rfl ?_
          refine e_aload_n (dx D_m_set 32 rfl) rfl ?_
          refine e_getR (dx D_m_set 33 rfl) fl_RX9_28 rfl rfl ?_
          refine e_iload_n (dx D_m_set 34 rfl) rfl ?_
          refine e_iload_n (dx D_m_set 35 rfl) rfl ?_
          obtain ⟨hb12, h⟩ := h
          refine e_iast (dx D_m_set 36 rfl) rfl hb12 ?_
          refine e_iload_n (dx D_m_set 37 rfl) rfl ?_
          exact e_iret (dx D_m_set 38 rfl) rfl rfl ⟨_, rfl, h⟩
        · replace h := h.2 (bP_z c)
          refine q_bipush (v := (-2)) (dx D_m_set 25 rfl) (by decide) ?_
          exact e_iret (dx D_m_set 26 rfl) rfl rfl ⟨_, rfl, h⟩
abbrev Cm_more (x1 : Int32) (x2 : Int32) (g : Sg) (Q : Int32 → Sg → Prop) : Prop := Ci Mm_more [.ref 34, .int x1, .int x2] g Q
set_option maxRecDepth 20000 in
theorem Vm_more {x1 : Int32} {x2 : Int32} {g : Sg} {Q : Int32 → Sg → Prop} (h : (((g 34 11) = 16 → Q (-4) g) ∧ (¬ (g 34 11) = 16 → vp_in (2 * (g 34 11)) 32 ∧ vp_in ((2 * (g 34 11)) + 1) 32 ∧ Q ((g 34 11) + 1) (sgU (sgU (sgU g 42 (2 * (g 34 11)).toNatClampNeg x1) 42 ((2 * (g 34 11)) + 1).toNatClampNeg x2) 34 11 ((g 34 11) + 1))))) : Cm_more x1 x2 g Q := by
  refine Cl.of 0 pl_X9 rfl ?_
  refine e_aload_n (dx D_m_more 0 rfl) rfl ?_
  refine e_getI (dx D_m_more 1 rfl) fl_RX9_133 rfl rfl ?_
  refine q_bipush (v := 16) (dx D_m_more 2 rfl) (by decide) ?_
  refine e_icmp_ne (tgt := 12) (dx D_m_more 3 rfl) (by decide) (fun c => ?_) (fun c => ?_)
  · replace h := h.2 c
    refine e_aload_n (dx D_m_more 6 rfl) rfl ?_
    refine e_getR (dx D_m_more 7 rfl) fl_RX9_31 rfl rfl ?_
    refine q_iconst (v := 2) (dx D_m_more 8 rfl) (by decide) ?_
    refine e_aload_n (dx D_m_more 9 rfl) rfl ?_
    refine e_getI (dx D_m_more 10 rfl) fl_RX9_133 rfl rfl ?_
    refine e_imul (dx D_m_more 11 rfl) ?_
    refine e_iload_n (dx D_m_more 12 rfl) rfl ?_
    obtain ⟨hb1, h⟩ := h
    refine e_iast (dx D_m_more 13 rfl) rfl hb1 ?_
    refine e_aload_n (dx D_m_more 14 rfl) rfl ?_
    refine e_getR (dx D_m_more 15 rfl) fl_RX9_31 rfl rfl ?_
    refine q_iconst (v := 2) (dx D_m_more 16 rfl) (by decide) ?_
    refine e_aload_n (dx D_m_more 17 rfl) rfl ?_
    refine e_getI (dx D_m_more 18 rfl) fl_RX9_133 rfl rfl ?_
    refine e_imul (dx D_m_more 19 rfl) ?_
    refine q_iconst (v := 1) (dx D_m_more 20 rfl) (by decide) ?_
    refine e_iadd (dx D_m_more 21 rfl) ?_
    refine e_iload_n (dx D_m_more 22 rfl) rfl ?_
    obtain ⟨hb2, h⟩ := h
    refine e_iast (dx D_m_more 23 rfl) rfl hb2 ?_
    refine e_aload_n (dx D_m_more 24 rfl) rfl ?_
    refine e_dup (dx D_m_more 25 rfl) rfl ?_
    refine e_getI (dx D_m_more 26 rfl) fl_RX9_133 rfl rfl ?_
    refine q_iconst (v := 1) (dx D_m_more 27 rfl) (by decide) ?_
    refine e_iadd (dx D_m_more 28 rfl) ?_
    refine e_putI (dx D_m_more 29 rfl) fp_RX9_133 rfl rfl ?_
    refine e_aload_n (dx D_m_more 30 rfl) rfl ?_
    refine e_getI (dx D_m_more 31 rfl) fl_RX9_133 rfl rfl ?_
    exact e_iret (dx D_m_more 32 rfl) rfl rfl ⟨_, rfl, h⟩
  · replace h := h.1 c
    refine q_bipush (v := (-4)) (dx D_m_more 4 rfl) (by decide) ?_
    exact e_iret (dx D_m_more 5 rfl) rfl rfl ⟨_, rfl, h⟩
abbrev Cm_letIn (x1 : Int32) (x2 : Int32) (g : Sg) (Q : Int32 → Sg → Prop) : Prop := Ci Mm_letIn [.ref 34, .int x1, .int x2] g Q
set_option maxRecDepth 20000 in
theorem Vm_letIn {x1 : Int32} {x2 : Int32} {g : Sg} {Q : Int32 → Sg → Prop} (h : (((twoE x1 x2) → Cm_more x1 x2 g (fun r2 g1 => Q r2 g1)) ∧ (¬ (twoE x1 x2) → Q (-2) g))) : Cm_letIn x1 x2 g Q := by
  refine Cl.of 0 pl_X9 rfl ?_
  refine e_iload_n (dx D_m_letIn 0 rfl) rfl ?_
  refine e_iload_n (dx D_m_letIn 1 rfl) rfl ?_
  refine e_callSi (Q1 := fun r g' => bP (twoE x1 x2) = r ∧ g = g') (rest := []) [.int x1, .int x2] (dx D_m_letIn 2 rfl) ln_m_letIn_136 rfl rfl (Nat.le_of_ble_eq_true rfl) (Im_areEnds  ⟨rfl, rfl⟩) (fun r g' hh => ?_)
  obtain ⟨rfl, rfl⟩ := hh
  refine e_if_eq (tgt := 17) (dx D_m_letIn 3 rfl) (by decide) (fun c => ?_) (fun c => ?_)
  · replace h := h.2 (bP_z c)
    refine q_bipush (v := (-2)) (dx D_m_letIn 9 rfl) (by decide) ?_
    exact e_iret (dx D_m_letIn 10 rfl) rfl rfl ⟨_, rfl, h⟩
  · replace h := h.1 (bP_n c)
    refine e_aload_n (dx D_m_letIn 4 rfl) rfl ?_
    refine e_iload_n (dx D_m_letIn 5 rfl) rfl ?_
    refine e_iload_n (dx D_m_letIn 6 rfl) rfl ?_
    refine e_callVi (rest := []) [.int x1, .int x2] (dx D_m_letIn 7 rfl) ln_m_letIn_140 rfl rfl rfl (Nat.le_of_ble_eq_true rfl) h (fun r2 g1 h => ?_)
    refine e_goto (tgt := 19) (dx D_m_letIn 8 rfl) (by decide) ?_
    exact e_iret (dx D_m_letIn 10 rfl) rfl rfl ⟨_, rfl, h⟩
abbrev Cm_pull (x1 : Int32) (g : Sg) (Q : Int32 → Sg → Prop) : Prop := Ci Mm_pull [.ref 34, .int x1] g Q
set_option maxRecDepth 20000 in
theorem Vm_pull {x1 : Int32} {g : Sg} {Q : Int32 → Sg → Prop} (h : (((isW x1) → Cm_more (-1) x1 g (fun r2 g1 => Q r2 g1)) ∧ (¬ (isW x1) → Q (-2) g))) : Cm_pull x1 g Q := by
  refine Cl.of 0 pl_X9 rfl ?_
  refine e_iload_n (dx D_m_pull 0 rfl) rfl ?_
  refine e_callSi (Q1 := fun r g' => bP (isW x1) = r ∧ g = g') (rest := []) [.int x1] (dx D_m_pull 1 rfl) ln_m_pull_143 rfl rfl (Nat.le_of_ble_eq_true rfl) (Im_isWire  ⟨rfl, rfl⟩) (fun r g' hh => ?_)
  obtain ⟨rfl, rfl⟩ := hh
  refine e_if_eq (tgt := 16) (dx D_m_pull 2 rfl) (by decide) (fun c => ?_) (fun c => ?_)
  · replace h := h.2 (bP_z c)
    refine q_bipush (v := (-2)) (dx D_m_pull 8 rfl) (by decide) ?_
    exact e_iret (dx D_m_pull 9 rfl) rfl rfl ⟨_, rfl, h⟩
  · replace h := h.1 (bP_n c)
    refine e_aload_n (dx D_m_pull 3 rfl) rfl ?_
    refine q_iconst (v := (-1)) (dx D_m_pull 4 rfl) (by decide) ?_
    refine e_iload_n (dx D_m_pull 5 rfl) rfl ?_
    refine e_callVi (rest := []) [.int (-1), .int x1] (dx D_m_pull 6 rfl) ln_m_pull_140 rfl rfl rfl (Nat.le_of_ble_eq_true rfl) h (fun r2 g1 h => ?_)
    refine e_goto (tgt := 18) (dx D_m_pull 7 rfl) (by decide) ?_
    exact e_iret (dx D_m_pull 9 rfl) rfl rfl ⟨_, rfl, h⟩
abbrev Cm_back (g : Sg) (Q : Int32 → Sg → Prop) : Prop := Ci Mm_back [.ref 34] g Q
set_option maxRecDepth 20000 in
theorem Vm_back {g : Sg} {Q : Int32 → Sg → Prop} (h : (((g 34 11) = 0 → Q (-3) g) ∧ (¬ (g 34 11) = 0 → Q ((g 34 11) - 1) (sgU g 34 11 ((g 34 11) - 1))))) : Cm_back g Q := by
  refine Cl.of 0 pl_X9 rfl ?_
  refine e_aload_n (dx D_m_back 0 rfl) rfl ?_
  refine e_getI (dx D_m_back 1 rfl) fl_RX9_133 rfl rfl ?_
  refine e_if_ne (tgt := 10) (dx D_m_back 2 rfl) (by decide) (fun c => ?_) (fun c => ?_)
  · replace h := h.2 c
    refine e_aload_n (dx D_m_back 5 rfl) rfl ?_
    refine e_dup (dx D_m_back 6 rfl) rfl ?_
    refine e_getI (dx D_m_back 7 rfl) fl_RX9_133 rfl rfl ?_
    refine q_iconst (v := 1) (dx D_m_back 8 rfl) (by decide) ?_
    refine e_isub (dx D_m_back 9 rfl) ?_
    refine e_putI (dx D_m_back 10 rfl) fp_RX9_133 rfl rfl ?_
    refine e_aload_n (dx D_m_back 11 rfl) rfl ?_
    refine e_getI (dx D_m_back 12 rfl) fl_RX9_133 rfl rfl ?_
    exact e_iret (dx D_m_back 13 rfl) rfl rfl ⟨_, rfl, h⟩
  · replace h := h.1 c
    refine q_bipush (v := (-3)) (dx D_m_back 3 rfl) (by decide) ?_
    exact e_iret (dx D_m_back 4 rfl) rfl rfl ⟨_, rfl, h⟩
abbrev Cm_read (x1 : Int32) (g : Sg) (Q : Int32 → Sg → Prop) : Prop := Ci Mm_read [.ref 34, .int x1] g Q
abbrev Hm_read_29 (x1 : Int32) (x2 : Int32) (x3 : Int32) (g : Sg) (Q : Int32 → Sg → Prop) : Prop := Hi Mm_read 29 [some (.ref 34), some (.int x1), some (.int x2), some (.int x3)] [] g Q
set_option maxRecDepth 20000 in
theorem Vm_read {x1 : Int32} {g : Sg} {Q : Int32 → Sg → Prop} (h : (((isS x1) → vp_in x1 4 ∧ ((0 ≤ (g 35 (x1).toNatClampNeg) → Hm_read_29 x1 0 1 g Q) ∧ (¬ 0 ≤ (g 35 (x1).toNatClampNeg) → Q ((-10) - 1) (sgU g 34 4 1)))) ∧ (¬ (isS x1) → Q (-2) g))) : Cm_read x1 g Q := by
  refine Cl.of 2 pl_X9 rfl ?_
  refine e_iload_n (dx D_m_read 0 rfl) rfl ?_
  refine e_callSi (Q1 := fun r g' => bP (isS x1) = r ∧ g = g') (rest := []) [.int x1] (dx D_m_read 1 rfl) ln_m_read_80 rfl rfl (Nat.le_of_ble_eq_true rfl) (Im_isSheet  ⟨rfl, rfl⟩) (fun r g' hh => ?_)
  obtain ⟨rfl, rfl⟩ := hh
  refine e_if_ne (tgt := 10) (dx D_m_read 2 rfl) (by decide) (fun c => ?_) (fun c => ?_)
  · replace h := h.1 (bP_n c)
    refine e_aload_n (dx D_m_read 5 rfl) rfl ?_
    refine e_getR (dx D_m_read 6 rfl) fl_RX9_7 rfl rfl ?_
    refine e_iload_n (dx D_m_read 7 rfl) rfl ?_
    obtain ⟨hb1, h⟩ := h
    refine e_iald (dx D_m_read 8 rfl) rfl hb1 ?_
    refine e_if_ge (tgt := 25) (dx D_m_read 9 rfl) (by decide) (fun c => ?_) (fun c => ?_)
    · replace h := h.1 c
      refine q_iconst (v := 0) (dx D_m_read 14 rfl) (by decide) ?_
      refine q_istore_n (L' := [some (.ref 34), some (.int x1), some (.int 0), none]) (dx D_m_read 15 rfl) (by decide) rfl ?_
      refine q_iconst (v := 1) (dx D_m_read 16 rfl) (by decide) ?_
      refine q_istore_n (L' := [some (.ref 34), some (.int x1), some (.int 0), some (.int 1)]) (dx D_m_read 17 rfl) (by decide) rfl ?_
      exact h
    · replace h := h.2 c
      refine e_aload_n (dx D_m_read 10 rfl) rfl ?_
      refine q_iconst (v := 1) (dx D_m_read 11 rfl) (by decide) ?_
      refine e_callVi (Q1 := fun r g' => ((-10) - 1) = r ∧ (sgU g 34 4 1) = g') (rest := []) [.int 1] (dx D_m_read 12 rfl) ln_m_read_86 rfl rfl rfl (Nat.le_of_ble_eq_true rfl) (Im_finds  ⟨rfl, rfl⟩) (fun r g' hh => ?_)
      obtain ⟨rfl, rfl⟩ := hh
      exact e_iret (dx D_m_read 13 rfl) rfl rfl ⟨_, rfl, h⟩
  · replace h := h.2 (bP_z c)
    refine q_bipush (v := (-2)) (dx D_m_read 3 rfl) (by decide) ?_
    exact e_iret (dx D_m_read 4 rfl) rfl rfl ⟨_, rfl, h⟩
set_option maxRecDepth 20000 in
theorem Vm_read_29 {x1 : Int32} {x2 : Int32} {x3 : Int32} {g : Sg} {Q : Int32 → Sg → Prop} (h : ((x3 = 0 → Q x2 g) ∧ (¬ x3 = 0 → vp_in x1 4 ∧ (((g 36 (x1).toNatClampNeg) < ((2 * x2) + 2) → Q x2 g) ∧ (¬ (g 36 (x1).toNatClampNeg) < ((2 * x2) + 2) → vp_in ((60 * x1) + (2 * x2)) 240 ∧ vp_in (((60 * x1) + (2 * x2)) + 1) 240 ∧ Cm_letIn (g 37 ((60 * x1) + (2 * x2)).toNatClampNeg) (g 37 (((60 * x1) + (2 * x2)) + 1).toNatClampNeg) g (fun r5 g4 => ((r5 < 0 → Hm_read_29 x1 (x2 + 0) 0 g4 Q) ∧ (¬ r5 < 0 → Hm_read_29 x1 (x2 + 1) 1 g4 Q)))))))) : Hm_read_29 x1 x2 x3 g Q := by
  refine e_iload_n (dx D_m_read 18 rfl) rfl ?_
  refine e_if_eq (tgt := 103) (dx D_m_read 19 rfl) (by decide) (fun c => ?_) (fun c => ?_)
  · replace h := h.1 c
    refine e_iload_n (dx D_m_read 68 rfl) rfl ?_
    exact e_iret (dx D_m_read 69 rfl) rfl rfl ⟨_, rfl, h⟩
  · replace h := h.2 c
    refine q_iconst (v := 2) (dx D_m_read 20 rfl) (by decide) ?_
    refine e_iload_n (dx D_m_read 21 rfl) rfl ?_
    refine e_imul (dx D_m_read 22 rfl) ?_
    refine q_iconst (v := 2) (dx D_m_read 23 rfl) (by decide) ?_
    refine e_iadd (dx D_m_read 24 rfl) ?_
    refine e_aload_n (dx D_m_read 25 rfl) rfl ?_
    refine e_getR (dx D_m_read 26 rfl) fl_RX9_13 rfl rfl ?_
    refine e_iload_n (dx D_m_read 27 rfl) rfl ?_
    obtain ⟨hb1, h⟩ := h
    refine e_iald (dx D_m_read 28 rfl) rfl hb1 ?_
    refine e_icmp_gt (tgt := 103) (dx D_m_read 29 rfl) (by decide) (fun c => ?_) (fun c => ?_)
    · replace h := h.1 c
      refine e_iload_n (dx D_m_read 68 rfl) rfl ?_
      exact e_iret (dx D_m_read 69 rfl) rfl rfl ⟨_, rfl, h⟩
    · replace h := h.2 c
      refine e_aload_n (dx D_m_read 30 rfl) rfl ?_
      refine e_aload_n (dx D_m_read 31 rfl) rfl ?_
      refine e_getR (dx D_m_read 32 rfl) fl_RX9_16 rfl rfl ?_
      refine q_bipush (v := 60) (dx D_m_read 33 rfl) (by decide) ?_
      refine e_iload_n (dx D_m_read 34 rfl) rfl ?_
      refine e_imul (dx D_m_read 35 rfl) ?_
      refine q_iconst (v := 2) (dx D_m_read 36 rfl) (by decide) ?_
      refine e_iload_n (dx D_m_read 37 rfl) rfl ?_
      refine e_imul (dx D_m_read 38 rfl) ?_
      refine e_iadd (dx D_m_read 39 rfl) ?_
      obtain ⟨hb2, h⟩ := h
      refine e_iald (dx D_m_read 40 rfl) rfl hb2 ?_
      refine e_aload_n (dx D_m_read 41 rfl) rfl ?_
      refine e_getR (dx D_m_read 42 rfl) fl_RX9_16 rfl rfl ?_
      refine q_bipush (v := 60) (dx D_m_read 43 rfl) (by decide) ?_
      refine e_iload_n (dx D_m_read 44 rfl) rfl ?_
      refine e_imul (dx D_m_read 45 rfl) ?_
      refine q_iconst (v := 2) (dx D_m_read 46 rfl) (by decide) ?_
      refine e_iload_n (dx D_m_read 47 rfl) rfl ?_
      refine e_imul (dx D_m_read 48 rfl) ?_
      refine e_iadd (dx D_m_read 49 rfl) ?_
      refine q_iconst (v := 1) (dx D_m_read 50 rfl) (by decide) ?_
      refine e_iadd (dx D_m_read 51 rfl) ?_
      obtain ⟨hb3, h⟩ := h
      refine e_iald (dx D_m_read 52 rfl) rfl hb3 ?_
      refine e_callVi (rest := []) [.int (g 37 ((60 * x1) + (2 * x2)).toNatClampNeg), .int (g 37 (((60 * x1) + (2 * x2)) + 1).toNatClampNeg)] (dx D_m_read 53 rfl) ln_m_read_146 rfl rfl rfl (Nat.le_of_ble_eq_true rfl) h (fun r5 g4 h => ?_)
      refine e_if_lt (tgt := 86) (dx D_m_read 54 rfl) (by decide) (fun c => ?_) (fun c => ?_)
      · replace h := h.1 c
        refine q_iconst (v := 0) (dx D_m_read 57 rfl) (by decide) ?_
        refine q_istore_n (L' := [some (.ref 34), some (.int x1), some (.int x2), some (.int 0)]) (dx D_m_read 58 rfl) (by decide) rfl ?_
        refine e_iload_n (dx D_m_read 59 rfl) rfl ?_
        refine e_iload_n (dx D_m_read 60 rfl) rfl ?_
        refine e_if_eq (tgt := 97) (dx D_m_read 61 rfl) (by decide) (fun c => ?_) (fun c => ?_)
        · skip
          refine q_iconst (v := 0) (dx D_m_read 64 rfl) (by decide) ?_
          refine e_iadd (dx D_m_read 65 rfl) ?_
          refine q_istore_n (L' := [some (.ref 34), some (.int x1), some (.int (x2 + 0)), some (.int 0)]) (dx D_m_read 66 rfl) (by decide) rfl ?_
          refine e_goto (tgt := 29) (dx D_m_read 67 rfl) (by decide) ?_
          exact h
        · exact absurd c (by decide)
      · replace h := h.2 c
        refine q_iconst (v := 1) (dx D_m_read 55 rfl) (by decide) ?_
        refine e_goto (tgt := 87) (dx D_m_read 56 rfl) (by decide) ?_
        refine q_istore_n (L' := [some (.ref 34), some (.int x1), some (.int x2), some (.int 1)]) (dx D_m_read 58 rfl) (by decide) rfl ?_
        refine e_iload_n (dx D_m_read 59 rfl) rfl ?_
        refine e_iload_n (dx D_m_read 60 rfl) rfl ?_
        refine e_if_eq (tgt := 97) (dx D_m_read 61 rfl) (by decide) (fun c => ?_) (fun c => ?_)
        · exact absurd c (by decide)
        · skip
          refine q_iconst (v := 1) (dx D_m_read 62 rfl) (by decide) ?_
          refine e_goto (tgt := 98) (dx D_m_read 63 rfl) (by decide) ?_
          refine e_iadd (dx D_m_read 65 rfl) ?_
          refine q_istore_n (L' := [some (.ref 34), some (.int x1), some (.int (x2 + 1)), some (.int 1)]) (dx D_m_read 66 rfl) (by decide) rfl ?_
          refine e_goto (tgt := 29) (dx D_m_read 67 rfl) (by decide) ?_
          exact h
abbrev Cm_findFar (x1 : Int32) (g : Sg) (Q : Sg → Prop) : Prop := Cv Mm_findFar [.ref 34, .int x1] g Q
abbrev Hm_findFar_2 (x1 : Int32) (x2 : Int32) (g : Sg) (Q : Sg → Prop) : Prop := Hv Mm_findFar 2 [some (.ref 34), some (.int x1), some (.int x2), none, none, none, none] [] g Q
abbrev Hm_findFar_34 (x2 : Int32) (g : Sg) (Q : Sg → Prop) : Prop := Hv Mm_findFar 34 [some (.ref 34), none, some (.int x2), none, none, none, none] [] g Q
abbrev Hm_findFar_42 (x2 : Int32) (x3 : Int32) (g : Sg) (Q : Sg → Prop) : Prop := Hv Mm_findFar 42 [some (.ref 34), none, some (.int x2), some (.int x3), none, none, none] [] g Q
abbrev Hm_findFar_139 (x2 : Int32) (x3 : Int32) (x4 : Int32) (x5 : Int32) (x6 : Int32) (g : Sg) (Q : Sg → Prop) : Prop := Hv Mm_findFar 139 [some (.ref 34), none, some (.int x2), some (.int x3), some (.int x4), some (.int x5), some (.int x6)] [] g Q
set_option maxRecDepth 20000 in
theorem Vm_findFar {x1 : Int32} {g : Sg} {Q : Sg → Prop} (h : Hm_findFar_2 x1 0 g Q) : Cm_findFar x1 g Q := by
  refine Cl.of 5 pl_X9 rfl ?_
  refine q_iconst (v := 0) (dx D_m_findFar 0 rfl) (by decide) ?_
  refine q_istore_n (L' := [some (.ref 34), some (.int x1), some (.int 0), none, none, none, none]) (dx D_m_findFar 1 rfl) (by decide) rfl ?_
  exact h
set_option maxRecDepth 20000 in
theorem Vm_findFar_2 {x1 : Int32} {x2 : Int32} {g : Sg} {Q : Sg → Prop} (h : ((8 ≤ x2 → Hm_findFar_34 0 g Q) ∧ (¬ 8 ≤ x2 → ((x2 = x1 → vp_in x2 8 ∧ Hm_findFar_2 x1 (x2 + 1) (sgU g 45 (x2).toNatClampNeg 0) Q) ∧ (¬ x2 = x1 → vp_in x2 8 ∧ Hm_findFar_2 x1 (x2 + 1) (sgU g 45 (x2).toNatClampNeg 10000) Q))))) : Hm_findFar_2 x1 x2 g Q := by
  refine e_iload_n (dx D_m_findFar 2 rfl) rfl ?_
  refine q_bipush (v := 8) (dx D_m_findFar 3 rfl) (by decide) ?_
  refine e_icmp_ge (tgt := 32) (dx D_m_findFar 4 rfl) (by decide) (fun c => ?_) (fun c => ?_)
  · replace h := h.1 c
    refine q_iconst (v := 0) (dx D_m_findFar 17 rfl) (by decide) ?_
    refine q_istore_n (L' := [some (.ref 34), some (.int x1), some (.int 0), none, none, none, none]) (dx D_m_findFar 18 rfl) (by decide) rfl ?_
    exact Wp.mask [true, false, true, false, false, false, false] h
  · replace h := h.2 c
    refine e_aload_n (dx D_m_findFar 5 rfl) rfl ?_
    refine e_getR (dx D_m_findFar 6 rfl) fl_RX9_40 rfl rfl ?_
    refine e_iload_n (dx D_m_findFar 7 rfl) rfl ?_
    refine e_iload_n (dx D_m_findFar 8 rfl) rfl ?_
    refine e_iload_n (dx D_m_findFar 9 rfl) rfl ?_
    refine e_icmp_ne (tgt := 22) (dx D_m_findFar 10 rfl) (by decide) (fun c => ?_) (fun c => ?_)
    · replace h := h.2 c
      refine q_sipush (v := 10000) (dx D_m_findFar 13 rfl) (by decide) ?_
      obtain ⟨hb1, h⟩ := h
      refine e_iast (dx D_m_findFar 14 rfl) rfl hb1 ?_
      refine q_iinc (d := 1) (L' := [some (.ref 34), some (.int x1), some (.int (x2 + 1)), none, none, none, none]) (dx D_m_findFar 15 rfl) rfl (by decide) (by decide) rfl ?_
      refine e_goto (tgt := 2) (dx D_m_findFar 16 rfl) (by decide) ?_
      exact h
    · replace h := h.1 c
      refine q_iconst (v := 0) (dx D_m_findFar 11 rfl) (by decide) ?_
      refine e_goto (tgt := 25) (dx D_m_findFar 12 rfl) (by decide) ?_
      obtain ⟨hb2, h⟩ := h
      refine e_iast (dx D_m_findFar 14 rfl) rfl hb2 ?_
      refine q_iinc (d := 1) (L' := [some (.ref 34), some (.int x1), some (.int (x2 + 1)), none, none, none, none]) (dx D_m_findFar 15 rfl) rfl (by decide) (by decide) rfl ?_
      refine e_goto (tgt := 2) (dx D_m_findFar 16 rfl) (by decide) ?_
      exact h
set_option maxRecDepth 20000 in
theorem Vm_findFar_34 {x2 : Int32} {g : Sg} {Q : Sg → Prop} (h : ((8 ≤ x2 → Q g) ∧ (¬ 8 ≤ x2 → Hm_findFar_42 x2 0 g Q))) : Hm_findFar_34 x2 g Q := by
  refine e_iload_n (dx D_m_findFar 19 rfl) rfl ?_
  refine q_bipush (v := 8) (dx D_m_findFar 20 rfl) (by decide) ?_
  refine e_icmp_ge (tgt := 198) (dx D_m_findFar 21 rfl) (by decide) (fun c => ?_) (fun c => ?_)
  · replace h := h.1 c
    exact e_vret (dx D_m_findFar 113 rfl) rfl ⟨rfl, h⟩
  · replace h := h.2 c
    refine q_iconst (v := 0) (dx D_m_findFar 22 rfl) (by decide) ?_
    refine q_istore_n (L' := [some (.ref 34), none, some (.int x2), some (.int 0), none, none, none]) (dx D_m_findFar 23 rfl) (by decide) rfl ?_
    exact h
set_option maxRecDepth 20000 in
theorem Vm_findFar_42 {x2 : Int32} {x3 : Int32} {g : Sg} {Q : Sg → Prop} (h : (((g 34 8) ≤ x3 → Hm_findFar_34 (x2 + 1) g Q) ∧ (¬ (g 34 8) ≤ x3 → vp_in (4 * x3) 64 ∧ vp_in ((4 * x3) + 1) 64 ∧ vp_in ((4 * x3) + 2) 64 ∧ vp_in x3 16 ∧ (((tbb (g 41 0) x3 = false ∧ g 44 (x3).toNatClampNeg < g 41 1) → vp_in (g 40 ((4 * x3) + 1).toNatClampNeg) 8 ∧ vp_in (g 40 (4 * x3).toNatClampNeg) 8 ∧ (((g 45 (g 40 (4 * x3).toNatClampNeg).toNatClampNeg) ≤ ((g 45 (g 40 ((4 * x3) + 1).toNatClampNeg).toNatClampNeg) + (g 40 ((4 * x3) + 2).toNatClampNeg)) → vp_in (g 40 (4 * x3).toNatClampNeg) 8 ∧ vp_in (g 40 (4 * x3).toNatClampNeg) 8 ∧ Hm_findFar_139 x2 x3 (g 40 (4 * x3).toNatClampNeg) (g 40 ((4 * x3) + 1).toNatClampNeg) (g 40 ((4 * x3) + 2).toNatClampNeg) (sgU g 45 (g 40 (4 * x3).toNatClampNeg).toNatClampNeg (g 45 (g 40 (4 * x3).toNatClampNeg).toNatClampNeg)) Q) ∧ (¬ (g 45 (g 40 (4 * x3).toNatClampNeg).toNatClampNeg) ≤ ((g 45 (g 40 ((4 * x3) + 1).toNatClampNeg).toNatClampNeg) + (g 40 ((4 * x3) + 2).toNatClampNeg)) → vp_in (g 40 ((4 * x3) + 1).toNatClampNeg) 8 ∧ vp_in (g 40 (4 * x3).toNatClampNeg) 8 ∧ Hm_findFar_139 x2 x3 (g 40 (4 * x3).toNatClampNeg) (g 40 ((4 * x3) + 1).toNatClampNeg) (g 40 ((4 * x3) + 2).toNatClampNeg) (sgU g 45 (g 40 (4 * x3).toNatClampNeg).toNatClampNeg ((g 45 (g 40 ((4 * x3) + 1).toNatClampNeg).toNatClampNeg) + (g 40 ((4 * x3) + 2).toNatClampNeg))) Q))) ∧ (¬ (tbb (g 41 0) x3 = false ∧ g 44 (x3).toNatClampNeg < g 41 1) → Hm_findFar_42 x2 (x3 + 1) g Q))))) : Hm_findFar_42 x2 x3 g Q := by
  refine e_iload_n (dx D_m_findFar 24 rfl) rfl ?_
  refine e_aload_n (dx D_m_findFar 25 rfl) rfl ?_
  refine e_getI (dx D_m_findFar 26 rfl) fl_RX9_104 rfl rfl ?_
  refine e_icmp_ge (tgt := 192) (dx D_m_findFar 27 rfl) (by decide) (fun c => ?_) (fun c => ?_)
  · replace h := h.1 c
    refine q_iinc (d := 1) (L' := [some (.ref 34), none, some (.int (x2 + 1)), some (.int x3), none, none, none]) (dx D_m_findFar 111 rfl) rfl (by decide) (by decide) rfl ?_
    refine e_goto (tgt := 34) (dx D_m_findFar 112 rfl) (by decide) ?_
    exact Wp.mask [true, false, true, false, false, false, false] h
  · replace h := h.2 c
    refine e_aload_n (dx D_m_findFar 28 rfl) rfl ?_
    refine e_getR (dx D_m_findFar 29 rfl) fl_RX9_25 rfl rfl ?_
    refine q_iconst (v := 4) (dx D_m_findFar 30 rfl) (by decide) ?_
    refine e_iload_n (dx D_m_findFar 31 rfl) rfl ?_
    refine e_imul (dx D_m_findFar 32 rfl) ?_
    obtain ⟨hb1, h⟩ := h
    refine e_iald (dx D_m_findFar 33 rfl) rfl hb1 ?_
    refine q_istore (L' := [some (.ref 34), none, some (.int x2), some (.int x3), some (.int (g 40 (4 * x3).toNatClampNeg)), none, none]) (dx D_m_findFar 34 rfl) (by decide) rfl ?_
    refine e_aload_n (dx D_m_findFar 35 rfl) rfl ?_
    refine e_getR (dx D_m_findFar 36 rfl) fl_RX9_25 rfl rfl ?_
    refine q_iconst (v := 4) (dx D_m_findFar 37 rfl) (by decide) ?_
    refine e_iload_n (dx D_m_findFar 38 rfl) rfl ?_
    refine e_imul (dx D_m_findFar 39 rfl) ?_
    refine q_iconst (v := 1) (dx D_m_findFar 40 rfl) (by decide) ?_
    refine e_iadd (dx D_m_findFar 41 rfl) ?_
    obtain ⟨hb2, h⟩ := h
    refine e_iald (dx D_m_findFar 42 rfl) rfl hb2 ?_
    refine q_istore (L' := [some (.ref 34), none, some (.int x2), some (.int x3), some (.int (g 40 (4 * x3).toNatClampNeg)), some (.int (g 40 ((4 * x3) + 1).toNatClampNeg)), none]) (dx D_m_findFar 43 rfl) (by decide) rfl ?_
    refine e_aload_n (dx D_m_findFar 44 rfl) rfl ?_
    refine e_getR (dx D_m_findFar 45 rfl) fl_RX9_25 rfl rfl ?_
    refine q_iconst (v := 4) (dx D_m_findFar 46 rfl) (by decide) ?_
    refine e_iload_n (dx D_m_findFar 47 rfl) rfl ?_
    refine e_imul (dx D_m_findFar 48 rfl) ?_
    refine q_iconst (v := 2) (dx D_m_findFar 49 rfl) (by decide) ?_
    refine e_iadd (dx D_m_findFar 50 rfl) ?_
    obtain ⟨hb3, h⟩ := h
    refine e_iald (dx D_m_findFar 51 rfl) rfl hb3 ?_
    refine q_istore (L' := [some (.ref 34), none, some (.int x2), some (.int x3), some (.int (g 40 (4 * x3).toNatClampNeg)), some (.int (g 40 ((4 * x3) + 1).toNatClampNeg)), some (.int (g 40 ((4 * x3) + 2).toNatClampNeg))]) (dx D_m_findFar 52 rfl) (by decide) rfl ?_
    refine e_aload_n (dx D_m_findFar 53 rfl) rfl ?_
    refine e_iload_n (dx D_m_findFar 54 rfl) rfl ?_
    obtain ⟨hb4, h⟩ := h
    refine e_callVi (Q1 := fun r g' => bP (tbb (g 41 0) x3 = false ∧ g 44 (x3).toNatClampNeg < g 41 1) = r ∧ g = g') (rest := []) [.int x3] (dx D_m_findFar 55 rfl) ln_m_findFar_152 rfl rfl rfl (Nat.le_of_ble_eq_true rfl) (Im_isOpen hb4 ⟨rfl, rfl⟩) (fun r g' hh => ?_)
    obtain ⟨rfl, rfl⟩ := hh
    refine e_if_eq (tgt := 186) (dx D_m_findFar 56 rfl) (by decide) (fun c => ?_) (fun c => ?_)
    · replace h := h.2 (bP_z c)
      refine q_iinc (d := 1) (L' := [some (.ref 34), none, some (.int x2), some (.int (x3 + 1)), some (.int (g 40 (4 * x3).toNatClampNeg)), some (.int (g 40 ((4 * x3) + 1).toNatClampNeg)), some (.int (g 40 ((4 * x3) + 2).toNatClampNeg))]) (dx D_m_findFar 109 rfl) rfl (by decide) (by decide) rfl ?_
      refine e_goto (tgt := 42) (dx D_m_findFar 110 rfl) (by decide) ?_
      exact Wp.mask [true, false, true, true, false, false, false] h
    · replace h := h.1 (bP_n c)
      refine e_aload_n (dx D_m_findFar 57 rfl) rfl ?_
      refine e_getR (dx D_m_findFar 58 rfl) fl_RX9_40 rfl rfl ?_
      refine e_iload (dx D_m_findFar 59 rfl) rfl ?_
      refine e_aload_n (dx D_m_findFar 60 rfl) rfl ?_
      refine e_getR (dx D_m_findFar 61 rfl) fl_RX9_40 rfl rfl ?_
      refine e_iload (dx D_m_findFar 62 rfl) rfl ?_
      obtain ⟨hb5, h⟩ := h
      refine e_iald (dx D_m_findFar 63 rfl) rfl hb5 ?_
      refine e_iload (dx D_m_findFar 64 rfl) rfl ?_
      refine e_iadd (dx D_m_findFar 65 rfl) ?_
      refine e_aload_n (dx D_m_findFar 66 rfl) rfl ?_
      refine e_getR (dx D_m_findFar 67 rfl) fl_RX9_40 rfl rfl ?_
      refine e_iload (dx D_m_findFar 68 rfl) rfl ?_
      obtain ⟨hb6, h⟩ := h
      refine e_iald (dx D_m_findFar 69 rfl) rfl hb6 ?_
      refine e_icmp_ge (tgt := 131) (dx D_m_findFar 70 rfl) (by decide) (fun c => ?_) (fun c => ?_)
      · replace h := h.1 c
        refine e_aload_n (dx D_m_findFar 78 rfl) rfl ?_
        refine e_getR (dx D_m_findFar 79 rfl) fl_RX9_40 rfl rfl ?_
        refine e_iload (dx D_m_findFar 80 rfl) rfl ?_
        obtain ⟨hb7, h⟩ := h
        refine e_iald (dx D_m_findFar 81 rfl) rfl hb7 ?_
        obtain ⟨hb8, h⟩ := h
        refine e_iast (dx D_m_findFar 82 rfl) rfl hb8 ?_
        exact h
      · replace h := h.2 c
        refine e_aload_n (dx D_m_findFar 71 rfl) rfl ?_
        refine e_getR (dx D_m_findFar 72 rfl) fl_RX9_40 rfl rfl ?_
        refine e_iload (dx D_m_findFar 73 rfl) rfl ?_
        obtain ⟨hb9, h⟩ := h
        refine e_iald (dx D_m_findFar 74 rfl) rfl hb9 ?_
        refine e_iload (dx D_m_findFar 75 rfl) rfl ?_
        refine e_iadd (dx D_m_findFar 76 rfl) ?_
        refine e_goto (tgt := 138) (dx D_m_findFar 77 rfl) (by decide) ?_
        obtain ⟨hb10, h⟩ := h
        refine e_iast (dx D_m_findFar 82 rfl) rfl hb10 ?_
        exact h
set_option maxRecDepth 20000 in
theorem Vm_findFar_139 {x2 : Int32} {x3 : Int32} {x4 : Int32} {x5 : Int32} {x6 : Int32} {g : Sg} {Q : Sg → Prop} (h : vp_in x4 8 ∧ vp_in x5 8 ∧ (((g 45 (x5).toNatClampNeg) ≤ ((g 45 (x4).toNatClampNeg) + x6) → vp_in x5 8 ∧ vp_in x5 8 ∧ Hm_findFar_42 x2 (x3 + 1) (sgU g 45 (x5).toNatClampNeg (g 45 (x5).toNatClampNeg)) Q) ∧ (¬ (g 45 (x5).toNatClampNeg) ≤ ((g 45 (x4).toNatClampNeg) + x6) → vp_in x4 8 ∧ vp_in x5 8 ∧ Hm_findFar_42 x2 (x3 + 1) (sgU g 45 (x5).toNatClampNeg ((g 45 (x4).toNatClampNeg) + x6)) Q))) : Hm_findFar_139 x2 x3 x4 x5 x6 g Q := by
  refine e_aload_n (dx D_m_findFar 83 rfl) rfl ?_
  refine e_getR (dx D_m_findFar 84 rfl) fl_RX9_40 rfl rfl ?_
  refine e_iload (dx D_m_findFar 85 rfl) rfl ?_
  refine e_aload_n (dx D_m_findFar 86 rfl) rfl ?_
  refine e_getR (dx D_m_findFar 87 rfl) fl_RX9_40 rfl rfl ?_
  refine e_iload (dx D_m_findFar 88 rfl) rfl ?_
  obtain ⟨hb1, h⟩ := h
  refine e_iald (dx D_m_findFar 89 rfl) rfl hb1 ?_
  refine e_iload (dx D_m_findFar 90 rfl) rfl ?_
  refine e_iadd (dx D_m_findFar 91 rfl) ?_
  refine e_aload_n (dx D_m_findFar 92 rfl) rfl ?_
  refine e_getR (dx D_m_findFar 93 rfl) fl_RX9_40 rfl rfl ?_
  refine e_iload (dx D_m_findFar 94 rfl) rfl ?_
  obtain ⟨hb2, h⟩ := h
  refine e_iald (dx D_m_findFar 95 rfl) rfl hb2 ?_
  refine e_icmp_ge (tgt := 178) (dx D_m_findFar 96 rfl) (by decide) (fun c => ?_) (fun c => ?_)
  · replace h := h.1 c
    refine e_aload_n (dx D_m_findFar 104 rfl) rfl ?_
    refine e_getR (dx D_m_findFar 105 rfl) fl_RX9_40 rfl rfl ?_
    refine e_iload (dx D_m_findFar 106 rfl) rfl ?_
    obtain ⟨hb3, h⟩ := h
    refine e_iald (dx D_m_findFar 107 rfl) rfl hb3 ?_
    obtain ⟨hb4, h⟩ := h
    refine e_iast (dx D_m_findFar 108 rfl) rfl hb4 ?_
    refine q_iinc (d := 1) (L' := [some (.ref 34), none, some (.int x2), some (.int (x3 + 1)), some (.int x4), some (.int x5), some (.int x6)]) (dx D_m_findFar 109 rfl) rfl (by decide) (by decide) rfl ?_
    refine e_goto (tgt := 42) (dx D_m_findFar 110 rfl) (by decide) ?_
    exact Wp.mask [true, false, true, true, false, false, false] h
  · replace h := h.2 c
    refine e_aload_n (dx D_m_findFar 97 rfl) rfl ?_
    refine e_getR (dx D_m_findFar 98 rfl) fl_RX9_40 rfl rfl ?_
    refine e_iload (dx D_m_findFar 99 rfl) rfl ?_
    obtain ⟨hb5, h⟩ := h
    refine e_iald (dx D_m_findFar 100 rfl) rfl hb5 ?_
    refine e_iload (dx D_m_findFar 101 rfl) rfl ?_
    refine e_iadd (dx D_m_findFar 102 rfl) ?_
    refine e_goto (tgt := 185) (dx D_m_findFar 103 rfl) (by decide) ?_
    obtain ⟨hb6, h⟩ := h
    refine e_iast (dx D_m_findFar 108 rfl) rfl hb6 ?_
    refine q_iinc (d := 1) (L' := [some (.ref 34), none, some (.int x2), some (.int (x3 + 1)), some (.int x4), some (.int x5), some (.int x6)]) (dx D_m_findFar 109 rfl) rfl (by decide) (by decide) rfl ?_
    refine e_goto (tgt := 42) (dx D_m_findFar 110 rfl) (by decide) ?_
    exact Wp.mask [true, false, true, true, false, false, false] h
abbrev Cm_findWay (x1 : Int32) (x2 : Int32) (g : Sg) (Q : Int32 → Sg → Prop) : Prop := Ci Mm_findWay [.ref 34, .int x1, .int x2] g Q
abbrev Hm_findWay_24 (x2 : Int32) (x3 : Int32) (x4 : Int32) (g : Sg) (Q : Int32 → Sg → Prop) : Prop := Hi Mm_findWay 24 [some (.ref 34), none, some (.int x2), some (.int x3), some (.int x4), none, none, none] [] g Q
abbrev Hm_findWay_41 (x2 : Int32) (x3 : Int32) (x4 : Int32) (x5 : Int32) (x6 : Int32) (g : Sg) (Q : Int32 → Sg → Prop) : Prop := Hi Mm_findWay 41 [some (.ref 34), none, some (.int x2), some (.int x3), some (.int x4), some (.int x5), some (.int x6), none] [] g Q
set_option maxRecDepth 20000 in
theorem Vm_findWay {x1 : Int32} {x2 : Int32} {g : Sg} {Q : Int32 → Sg → Prop} (h : Cm_findFar x2 g (fun g1 => vp_in x1 8 ∧ (((g1 45 (x1).toNatClampNeg) < 10000 → Hm_findWay_24 x2 0 x1 g1 Q) ∧ (¬ (g1 45 (x1).toNatClampNeg) < 10000 → Q (-1) g1)))) : Cm_findWay x1 x2 g Q := by
  refine Cl.of 5 pl_X9 rfl ?_
  refine e_aload_n (dx D_m_findWay 0 rfl) rfl ?_
  refine e_iload_n (dx D_m_findWay 1 rfl) rfl ?_
  refine e_callVv (rest := []) [.int x2] (dx D_m_findWay 2 rfl) ln_m_findWay_155 rfl rfl rfl (Nat.le_of_ble_eq_true rfl) h (fun g1 h => ?_)
  refine e_aload_n (dx D_m_findWay 3 rfl) rfl ?_
  refine e_getR (dx D_m_findWay 4 rfl) fl_RX9_40 rfl rfl ?_
  refine e_iload_n (dx D_m_findWay 5 rfl) rfl ?_
  obtain ⟨hb2, h⟩ := h
  refine e_iald (dx D_m_findWay 6 rfl) rfl hb2 ?_
  refine q_sipush (v := 10000) (dx D_m_findWay 7 rfl) (by decide) ?_
  refine e_icmp_lt (tgt := 19) (dx D_m_findWay 8 rfl) (by decide) (fun c => ?_) (fun c => ?_)
  · replace h := h.1 c
    refine q_iconst (v := 0) (dx D_m_findWay 11 rfl) (by decide) ?_
    refine q_istore_n (L' := [some (.ref 34), some (.int x1), some (.int x2), some (.int 0), none, none, none, none]) (dx D_m_findWay 12 rfl) (by decide) rfl ?_
    refine e_iload_n (dx D_m_findWay 13 rfl) rfl ?_
    refine q_istore (L' := [some (.ref 34), some (.int x1), some (.int x2), some (.int 0), some (.int x1), none, none, none]) (dx D_m_findWay 14 rfl) (by decide) rfl ?_
    exact Wp.mask [true, false, true, true, true, false, false, false] h
  · replace h := h.2 c
    refine q_iconst (v := (-1)) (dx D_m_findWay 9 rfl) (by decide) ?_
    exact e_iret (dx D_m_findWay 10 rfl) rfl rfl ⟨_, rfl, h⟩
set_option maxRecDepth 20000 in
theorem Vm_findWay_24 {x2 : Int32} {x3 : Int32} {x4 : Int32} {g : Sg} {Q : Int32 → Sg → Prop} (h : ((x4 = x2 → Q x3 g) ∧ (¬ x4 = x2 → Hm_findWay_41 x2 x3 x4 (-1) ((g 34 8) - 1) g Q))) : Hm_findWay_24 x2 x3 x4 g Q := by
  refine e_iload (dx D_m_findWay 15 rfl) rfl ?_
  refine e_iload_n (dx D_m_findWay 16 rfl) rfl ?_
  refine e_icmp_eq (tgt := 139) (dx D_m_findWay 17 rfl) (by decide) (fun c => ?_) (fun c => ?_)
  · replace h := h.1 c
    refine e_iload_n (dx D_m_findWay 75 rfl) rfl ?_
    exact e_iret (dx D_m_findWay 76 rfl) rfl rfl ⟨_, rfl, h⟩
  · replace h := h.2 c
    refine q_iconst (v := (-1)) (dx D_m_findWay 18 rfl) (by decide) ?_
    refine q_istore (L' := [some (.ref 34), none, some (.int x2), some (.int x3), some (.int x4), some (.int (-1)), none, none]) (dx D_m_findWay 19 rfl) (by decide) rfl ?_
    refine e_aload_n (dx D_m_findWay 20 rfl) rfl ?_
    refine e_getI (dx D_m_findWay 21 rfl) fl_RX9_104 rfl rfl ?_
    refine q_iconst (v := 1) (dx D_m_findWay 22 rfl) (by decide) ?_
    refine e_isub (dx D_m_findWay 23 rfl) ?_
    refine q_istore (L' := [some (.ref 34), none, some (.int x2), some (.int x3), some (.int x4), some (.int (-1)), some (.int ((g 34 8) - 1)), none]) (dx D_m_findWay 24 rfl) (by decide) rfl ?_
    exact h
set_option maxRecDepth 20000 in
theorem Vm_findWay_41 {x2 : Int32} {x3 : Int32} {x4 : Int32} {x5 : Int32} {x6 : Int32} {g : Sg} {Q : Int32 → Sg → Prop} (h : ((x6 < 0 → vp_in x3 16 ∧ vp_in (4 * x5) 64 ∧ vp_in (4 * x5 + 1) 64 ∧ Hm_findWay_24 x2 (x3 + 1) (mOth g x5 x4) (sgU g 46 (x3).toNatClampNeg x5) Q) ∧ (¬ x6 < 0 → vp_in (4 * x6) 64 ∧ vp_in (4 * x6 + 1) 64 ∧ (((mOth g x6 x4) = (-1) → Hm_findWay_41 x2 x3 x4 x5 (x6 + (-1)) g Q) ∧ (¬ (mOth g x6 x4) = (-1) → vp_in x6 16 ∧ (((tbb (g 41 0) x6 = false ∧ g 44 (x6).toNatClampNeg < g 41 1) → vp_in (mOth g x6 x4) 8 ∧ vp_in ((4 * x6) + 2) 64 ∧ vp_in x4 8 ∧ ((((g 45 (mOth g x6 x4).toNatClampNeg) + (g 40 ((4 * x6) + 2).toNatClampNeg)) = (g 45 (x4).toNatClampNeg) → Hm_findWay_41 x2 x3 x4 x6 (x6 + (-1)) g Q) ∧ (¬ ((g 45 (mOth g x6 x4).toNatClampNeg) + (g 40 ((4 * x6) + 2).toNatClampNeg)) = (g 45 (x4).toNatClampNeg) → Hm_findWay_41 x2 x3 x4 x5 (x6 + (-1)) g Q))) ∧ (¬ (tbb (g 41 0) x6 = false ∧ g 44 (x6).toNatClampNeg < g 41 1) → Hm_findWay_41 x2 x3 x4 x5 (x6 + (-1)) g Q))))))) : Hm_findWay_41 x2 x3 x4 x5 x6 g Q := by
  refine e_iload (dx D_m_findWay 25 rfl) rfl ?_
  refine e_if_lt (tgt := 115) (dx D_m_findWay 26 rfl) (by decide) (fun c => ?_) (fun c => ?_)
  · replace h := h.1 c
    refine e_aload_n (dx D_m_findWay 63 rfl) rfl ?_
    refine e_getR (dx D_m_findWay 64 rfl) fl_RX9_43 rfl rfl ?_
    refine e_iload_n (dx D_m_findWay 65 rfl) rfl ?_
    refine e_iload (dx D_m_findWay 66 rfl) rfl ?_
    obtain ⟨hb1, h⟩ := h
    refine e_iast (dx D_m_findWay 67 rfl) rfl hb1 ?_
    refine q_iinc (d := 1) (L' := [some (.ref 34), none, some (.int x2), some (.int (x3 + 1)), some (.int x4), some (.int x5), some (.int x6), none]) (dx D_m_findWay 68 rfl) rfl (by decide) (by decide) rfl ?_
    refine e_aload_n (dx D_m_findWay 69 rfl) rfl ?_
    refine e_iload (dx D_m_findWay 70 rfl) rfl ?_
    refine e_iload (dx D_m_findWay 71 rfl) rfl ?_
    obtain ⟨hb2, h⟩ := h
    obtain ⟨hb3, h⟩ := h
    refine e_callVi (Q1 := fun r g' => (mOth g x5 x4) = r ∧ (sgU g 46 (x3).toNatClampNeg x5) = g') (rest := []) [.int x5, .int x4] (dx D_m_findWay 72 rfl) ln_m_findWay_159 rfl rfl rfl (Nat.le_of_ble_eq_true rfl) (Im_other hb2 hb3 ⟨rfl, rfl⟩) (fun r g' hh => ?_)
    obtain ⟨rfl, rfl⟩ := hh
    refine q_istore (L' := [some (.ref 34), none, some (.int x2), some (.int (x3 + 1)), some (.int (mOth g x5 x4)), some (.int x5), some (.int x6), none]) (dx D_m_findWay 73 rfl) (by decide) rfl ?_
    refine e_goto (tgt := 24) (dx D_m_findWay 74 rfl) (by decide) ?_
    exact Wp.mask [true, false, true, true, true, false, false, false] h
  · replace h := h.2 c
    refine e_aload_n (dx D_m_findWay 27 rfl) rfl ?_
    refine e_iload (dx D_m_findWay 28 rfl) rfl ?_
    refine e_iload (dx D_m_findWay 29 rfl) rfl ?_
    obtain ⟨hb4, h⟩ := h
    obtain ⟨hb5, h⟩ := h
    refine e_callVi (Q1 := fun r g' => (mOth g x6 x4) = r ∧ g = g') (rest := []) [.int x6, .int x4] (dx D_m_findWay 30 rfl) ln_m_findWay_159 rfl rfl rfl (Nat.le_of_ble_eq_true rfl) (Im_other hb4 hb5 ⟨rfl, rfl⟩) (fun r g' hh => ?_)
    obtain ⟨rfl, rfl⟩ := hh
    refine q_istore (L' := [some (.ref 34), none, some (.int x2), some (.int x3), some (.int x4), some (.int x5), some (.int x6), some (.int (mOth g x6 x4))]) (dx D_m_findWay 31 rfl) (by decide) rfl ?_
    refine e_iload (dx D_m_findWay 32 rfl) rfl ?_
    refine q_iconst (v := (-1)) (dx D_m_findWay 33 rfl) (by decide) ?_
    refine e_icmp_eq (tgt := 105) (dx D_m_findWay 34 rfl) (by decide) (fun c => ?_) (fun c => ?_)
    · replace h := h.1 c
      refine e_iload (dx D_m_findWay 59 rfl) rfl ?_
      refine q_istore (L' := [some (.ref 34), none, some (.int x2), some (.int x3), some (.int x4), some (.int x5), some (.int x6), some (.int (mOth g x6 x4))]) (dx D_m_findWay 60 rfl) (by decide) rfl ?_
      refine q_iinc (d := (-1)) (L' := [some (.ref 34), none, some (.int x2), some (.int x3), some (.int x4), some (.int x5), some (.int (x6 + (-1))), some (.int (mOth g x6 x4))]) (dx D_m_findWay 61 rfl) rfl (by decide) (by decide) rfl ?_
      refine e_goto (tgt := 41) (dx D_m_findWay 62 rfl) (by decide) ?_
      exact Wp.mask [true, false, true, true, true, true, true, false] h
    · replace h := h.2 c
      refine e_aload_n (dx D_m_findWay 35 rfl) rfl ?_
      refine e_iload (dx D_m_findWay 36 rfl) rfl ?_
      obtain ⟨hb6, h⟩ := h
      refine e_callVi (Q1 := fun r g' => bP (tbb (g 41 0) x6 = false ∧ g 44 (x6).toNatClampNeg < g 41 1) = r ∧ g = g') (rest := []) [.int x6] (dx D_m_findWay 37 rfl) ln_m_findWay_152 rfl rfl rfl (Nat.le_of_ble_eq_true rfl) (Im_isOpen hb6 ⟨rfl, rfl⟩) (fun r g' hh => ?_)
      obtain ⟨rfl, rfl⟩ := hh
      refine e_if_eq (tgt := 105) (dx D_m_findWay 38 rfl) (by decide) (fun c => ?_) (fun c => ?_)
      · replace h := h.2 (bP_z c)
        refine e_iload (dx D_m_findWay 59 rfl) rfl ?_
        refine q_istore (L' := [some (.ref 34), none, some (.int x2), some (.int x3), some (.int x4), some (.int x5), some (.int x6), some (.int (mOth g x6 x4))]) (dx D_m_findWay 60 rfl) (by decide) rfl ?_
        refine q_iinc (d := (-1)) (L' := [some (.ref 34), none, some (.int x2), some (.int x3), some (.int x4), some (.int x5), some (.int (x6 + (-1))), some (.int (mOth g x6 x4))]) (dx D_m_findWay 61 rfl) rfl (by decide) (by decide) rfl ?_
        refine e_goto (tgt := 41) (dx D_m_findWay 62 rfl) (by decide) ?_
        exact Wp.mask [true, false, true, true, true, true, true, false] h
      · replace h := h.1 (bP_n c)
        refine e_aload_n (dx D_m_findWay 39 rfl) rfl ?_
        refine e_getR (dx D_m_findWay 40 rfl) fl_RX9_40 rfl rfl ?_
        refine e_iload (dx D_m_findWay 41 rfl) rfl ?_
        obtain ⟨hb7, h⟩ := h
        refine e_iald (dx D_m_findWay 42 rfl) rfl hb7 ?_
        refine e_aload_n (dx D_m_findWay 43 rfl) rfl ?_
        refine e_getR (dx D_m_findWay 44 rfl) fl_RX9_25 rfl rfl ?_
        refine q_iconst (v := 4) (dx D_m_findWay 45 rfl) (by decide) ?_
        refine e_iload (dx D_m_findWay 46 rfl) rfl ?_
        refine e_imul (dx D_m_findWay 47 rfl) ?_
        refine q_iconst (v := 2) (dx D_m_findWay 48 rfl) (by decide) ?_
        refine e_iadd (dx D_m_findWay 49 rfl) ?_
        obtain ⟨hb8, h⟩ := h
        refine e_iald (dx D_m_findWay 50 rfl) rfl hb8 ?_
        refine e_iadd (dx D_m_findWay 51 rfl) ?_
        refine e_aload_n (dx D_m_findWay 52 rfl) rfl ?_
        refine e_getR (dx D_m_findWay 53 rfl) fl_RX9_40 rfl rfl ?_
        refine e_iload (dx D_m_findWay 54 rfl) rfl ?_
        obtain ⟨hb9, h⟩ := h
        refine e_iald (dx D_m_findWay 55 rfl) rfl hb9 ?_
        refine e_icmp_ne (tgt := 105) (dx D_m_findWay 56 rfl) (by decide) (fun c => ?_) (fun c => ?_)
        · replace h := h.2 c
          refine e_iload (dx D_m_findWay 59 rfl) rfl ?_
          refine q_istore (L' := [some (.ref 34), none, some (.int x2), some (.int x3), some (.int x4), some (.int x5), some (.int x6), some (.int (mOth g x6 x4))]) (dx D_m_findWay 60 rfl) (by decide) rfl ?_
          refine q_iinc (d := (-1)) (L' := [some (.ref 34), none, some (.int x2), some (.int x3), some (.int x4), some (.int x5), some (.int (x6 + (-1))), some (.int (mOth g x6 x4))]) (dx D_m_findWay 61 rfl) rfl (by decide) (by decide) rfl ?_
          refine e_goto (tgt := 41) (dx D_m_findWay 62 rfl) (by decide) ?_
          exact Wp.mask [true, false, true, true, true, true, true, false] h
        · replace h := h.1 c
          refine e_iload (dx D_m_findWay 57 rfl) rfl ?_
          refine e_goto (tgt := 107) (dx D_m_findWay 58 rfl) (by decide) ?_
          refine q_istore (L' := [some (.ref 34), none, some (.int x2), some (.int x3), some (.int x4), some (.int x6), some (.int x6), some (.int (mOth g x6 x4))]) (dx D_m_findWay 60 rfl) (by decide) rfl ?_
          refine q_iinc (d := (-1)) (L' := [some (.ref 34), none, some (.int x2), some (.int x3), some (.int x4), some (.int x6), some (.int (x6 + (-1))), some (.int (mOth g x6 x4))]) (dx D_m_findWay 61 rfl) rfl (by decide) (by decide) rfl ?_
          refine e_goto (tgt := 41) (dx D_m_findWay 62 rfl) (by decide) ?_
          exact Wp.mask [true, false, true, true, true, true, true, false] h
abbrev Cm_draws (x1 : Int32) (x2 : Int32) (g : Sg) (Q : Int32 → Sg → Prop) : Prop := Ci Mm_draws [.ref 34, .int x1, .int x2] g Q
abbrev Hm_draws_13 (x3 : Int32) (x4 : Int32) (x5 : Int32) (g : Sg) (Q : Int32 → Sg → Prop) : Prop := Hi Mm_draws 13 [some (.ref 34), none, none, some (.int x3), some (.int x4), some (.int x5)] [] g Q
set_option maxRecDepth 20000 in
theorem Vm_draws {x1 : Int32} {x2 : Int32} {g : Sg} {Q : Int32 → Sg → Prop} (h : Cm_findWay x1 x2 g (fun r2 g1 => Hm_draws_13 r2 0 0 g1 Q)) : Cm_draws x1 x2 g Q := by
  refine Cl.of 3 pl_X9 rfl ?_
  refine e_aload_n (dx D_m_draws 0 rfl) rfl ?_
  refine e_iload_n (dx D_m_draws 1 rfl) rfl ?_
  refine e_iload_n (dx D_m_draws 2 rfl) rfl ?_
  refine e_callVi (rest := []) [.int x1, .int x2] (dx D_m_draws 3 rfl) ln_m_draws_162 rfl rfl rfl (Nat.le_of_ble_eq_true rfl) h (fun r2 g1 h => ?_)
  refine q_istore_n (L' := [some (.ref 34), some (.int x1), some (.int x2), some (.int r2), none, none]) (dx D_m_draws 4 rfl) (by decide) rfl ?_
  refine q_iconst (v := 0) (dx D_m_draws 5 rfl) (by decide) ?_
  refine q_istore (L' := [some (.ref 34), some (.int x1), some (.int x2), some (.int r2), some (.int 0), none]) (dx D_m_draws 6 rfl) (by decide) rfl ?_
  refine q_iconst (v := 0) (dx D_m_draws 7 rfl) (by decide) ?_
  refine q_istore (L' := [some (.ref 34), some (.int x1), some (.int x2), some (.int r2), some (.int 0), some (.int 0)]) (dx D_m_draws 8 rfl) (by decide) rfl ?_
  exact Wp.mask [true, false, false, true, true, true] h
set_option maxRecDepth 20000 in
theorem Vm_draws_13 {x3 : Int32} {x4 : Int32} {x5 : Int32} {g : Sg} {Q : Int32 → Sg → Prop} (h : ((x3 ≤ x5 → Q x4 g) ∧ (¬ x3 ≤ x5 → vp_in x5 16 ∧ vp_in (g 46 (x5).toNatClampNeg) 16 ∧ vp_in (g 46 (x5).toNatClampNeg) 16 ∧ vp_in x5 16 ∧ Hm_draws_13 x3 (x4 ||| (sb (g 46 (x5).toNatClampNeg))) (x5 + 1) (sgU g 44 (g 46 (x5).toNatClampNeg).toNatClampNeg ((g 44 (g 46 (x5).toNatClampNeg).toNatClampNeg) + 1)) Q))) : Hm_draws_13 x3 x4 x5 g Q := by
  refine e_iload (dx D_m_draws 9 rfl) rfl ?_
  refine e_iload_n (dx D_m_draws 10 rfl) rfl ?_
  refine e_icmp_ge (tgt := 55) (dx D_m_draws 11 rfl) (by decide) (fun c => ?_) (fun c => ?_)
  · replace h := h.1 c
    refine e_iload (dx D_m_draws 34 rfl) rfl ?_
    exact e_iret (dx D_m_draws 35 rfl) rfl rfl ⟨_, rfl, h⟩
  · replace h := h.2 c
    refine e_aload_n (dx D_m_draws 12 rfl) rfl ?_
    refine e_getR (dx D_m_draws 13 rfl) fl_RX9_37 rfl rfl ?_
    refine e_aload_n (dx D_m_draws 14 rfl) rfl ?_
    refine e_getR (dx D_m_draws 15 rfl) fl_RX9_43 rfl rfl ?_
    refine e_iload (dx D_m_draws 16 rfl) rfl ?_
    obtain ⟨hb1, h⟩ := h
    refine e_iald (dx D_m_draws 17 rfl) rfl hb1 ?_
    refine e_dup2 (dx D_m_draws 18 rfl) rfl rfl ?_
    obtain ⟨hb2, h⟩ := h
    refine e_iald (dx D_m_draws 19 rfl) rfl hb2 ?_
    refine q_iconst (v := 1) (dx D_m_draws 20 rfl) (by decide) ?_
    refine e_iadd (dx D_m_draws 21 rfl) ?_
    obtain ⟨hb3, h⟩ := h
    refine e_iast (dx D_m_draws 22 rfl) rfl hb3 ?_
    refine e_iload (dx D_m_draws 23 rfl) rfl ?_
    refine q_iconst (v := 1) (dx D_m_draws 24 rfl) (by decide) ?_
    refine e_aload_n (dx D_m_draws 25 rfl) rfl ?_
    refine e_getR (dx D_m_draws 26 rfl) fl_RX9_43 rfl rfl ?_
    refine e_iload (dx D_m_draws 27 rfl) rfl ?_
    obtain ⟨hb4, h⟩ := h
    refine e_iald (dx D_m_draws 28 rfl) rfl hb4 ?_
    refine e_ishl (dx D_m_draws 29 rfl) ?_
    refine e_ior (dx D_m_draws 30 rfl) ?_
    refine q_istore (L' := [some (.ref 34), none, none, some (.int x3), some (.int (x4 ||| (sb (g 46 (x5).toNatClampNeg)))), some (.int x5)]) (dx D_m_draws 31 rfl) (by decide) rfl ?_
    refine q_iinc (d := 1) (L' := [some (.ref 34), none, none, some (.int x3), some (.int (x4 ||| (sb (g 46 (x5).toNatClampNeg)))), some (.int (x5 + 1))]) (dx D_m_draws 32 rfl) rfl (by decide) (by decide) rfl ?_
    refine e_goto (tgt := 13) (dx D_m_draws 33 rfl) (by decide) ?_
    exact h
abbrev Cm_canPull (x1 : Int32) (g : Sg) (Q : Int32 → Sg → Prop) : Prop := Ci Mm_canPull [.ref 34, .int x1] g Q
abbrev Hm_canPull_13 (x1 : Int32) (x2 : Int32) (x3 : Int32) (g : Sg) (Q : Int32 → Sg → Prop) : Prop := Hi Mm_canPull 13 [some (.ref 34), some (.int x1), some (.int x2), some (.int x3)] [] g Q
set_option maxRecDepth 20000 in
theorem Vm_canPull {x1 : Int32} {g : Sg} {Q : Int32 → Sg → Prop} (h : Hm_canPull_13 x1 (bP (tbb (g 34 15) x1 = true)) (x1 + 1) g Q) : Cm_canPull x1 g Q := by
  refine Cl.of 2 pl_X9 rfl ?_
  refine e_aload_n (dx D_m_canPull 0 rfl) rfl ?_
  refine e_getI (dx D_m_canPull 1 rfl) fl_RX9_165 rfl rfl ?_
  refine e_iload_n (dx D_m_canPull 2 rfl) rfl ?_
  refine e_callSi (Q1 := fun r g' => bP (tbb (g 34 15) x1 = true) = r ∧ g = g') (rest := []) [.int (g 34 15), .int x1] (dx D_m_canPull 3 rfl) ln_m_canPull_149 rfl rfl (Nat.le_of_ble_eq_true rfl) (Im_isIn  ⟨rfl, rfl⟩) (fun r g' hh => ?_)
  obtain ⟨rfl, rfl⟩ := hh
  refine q_istore_n (L' := [some (.ref 34), some (.int x1), some (.int (bP (tbb (g 34 15) x1 = true))), none]) (dx D_m_canPull 4 rfl) (by decide) rfl ?_
  refine e_iload_n (dx D_m_canPull 5 rfl) rfl ?_
  refine q_iconst (v := 1) (dx D_m_canPull 6 rfl) (by decide) ?_
  refine e_iadd (dx D_m_canPull 7 rfl) ?_
  refine q_istore_n (L' := [some (.ref 34), some (.int x1), some (.int (bP (tbb (g 34 15) x1 = true))), some (.int (x1 + 1))]) (dx D_m_canPull 8 rfl) (by decide) rfl ?_
  exact h
set_option maxRecDepth 20000 in
theorem Vm_canPull_13 {x1 : Int32} {x2 : Int32} {x3 : Int32} {g : Sg} {Q : Int32 → Sg → Prop} (h : ((16 ≤ x3 → x2 &&& 1 = x2 ∧ Q x2 g) ∧ (¬ 16 ≤ x3 → ((x2 = 0 → x2 &&& 1 = x2 ∧ Q x2 g) ∧ (¬ x2 = 0 → (((tbb (g 34 15) x3 = true) → vp_in x3 16 ∧ vp_in x1 16 ∧ ((((g 43 (x3).toNatClampNeg) &&& (g 43 (x1).toNatClampNeg)) = 0 → Hm_canPull_13 x1 1 (x3 + 1) g Q) ∧ (¬ ((g 43 (x3).toNatClampNeg) &&& (g 43 (x1).toNatClampNeg)) = 0 → Hm_canPull_13 x1 0 (x3 + 1) g Q))) ∧ (¬ (tbb (g 34 15) x3 = true) → Hm_canPull_13 x1 1 (x3 + 1) g Q))))))) : Hm_canPull_13 x1 x2 x3 g Q := by
  refine e_iload_n (dx D_m_canPull 9 rfl) rfl ?_
  refine q_bipush (v := 16) (dx D_m_canPull 10 rfl) (by decide) ?_
  refine e_icmp_ge (tgt := 62) (dx D_m_canPull 11 rfl) (by decide) (fun c => ?_) (fun c => ?_)
  · replace h := h.1 c
    refine e_iload_n (dx D_m_canPull 35 rfl) rfl ?_
    obtain ⟨hb1, h⟩ := h
    exact e_iret (dx D_m_canPull 36 rfl) rfl (nb1 hb1) ⟨_, rfl, h⟩
  · replace h := h.2 c
    refine e_iload_n (dx D_m_canPull 12 rfl) rfl ?_
    refine e_if_eq (tgt := 62) (dx D_m_canPull 13 rfl) (by decide) (fun c => ?_) (fun c => ?_)
    · replace h := h.1 c
      refine e_iload_n (dx D_m_canPull 35 rfl) rfl ?_
      obtain ⟨hb2, h⟩ := h
      exact e_iret (dx D_m_canPull 36 rfl) rfl (nb1 hb2) ⟨_, rfl, h⟩
    · replace h := h.2 c
      refine e_aload_n (dx D_m_canPull 14 rfl) rfl ?_
      refine e_getI (dx D_m_canPull 15 rfl) fl_RX9_165 rfl rfl ?_
      refine e_iload_n (dx D_m_canPull 16 rfl) rfl ?_
      refine e_callSi (Q1 := fun r g' => bP (tbb (g 34 15) x3 = true) = r ∧ g = g') (rest := []) [.int (g 34 15), .int x3] (dx D_m_canPull 17 rfl) ln_m_canPull_149 rfl rfl (Nat.le_of_ble_eq_true rfl) (Im_isIn  ⟨rfl, rfl⟩) (fun r g' hh => ?_)
      obtain ⟨rfl, rfl⟩ := hh
      refine e_if_eq (tgt := 50) (dx D_m_canPull 18 rfl) (by decide) (fun c => ?_) (fun c => ?_)
      · replace h := h.2 (bP_z c)
        refine q_iconst (v := 1) (dx D_m_canPull 29 rfl) (by decide) ?_
        refine e_goto (tgt := 55) (dx D_m_canPull 30 rfl) (by decide) ?_
        refine q_istore_n (L' := [some (.ref 34), some (.int x1), some (.int 1), some (.int x3)]) (dx D_m_canPull 32 rfl) (by decide) rfl ?_
        refine q_iinc (d := 1) (L' := [some (.ref 34), some (.int x1), some (.int 1), some (.int (x3 + 1))]) (dx D_m_canPull 33 rfl) rfl (by decide) (by decide) rfl ?_
        refine e_goto (tgt := 13) (dx D_m_canPull 34 rfl) (by decide) ?_
        exact h
      · replace h := h.1 (bP_n c)
        refine e_aload_n (dx D_m_canPull 19 rfl) rfl ?_
        refine e_getR (dx D_m_canPull 20 rfl) fl_RX9_34 rfl rfl ?_
        refine e_iload_n (dx D_m_canPull 21 rfl) rfl ?_
        obtain ⟨hb3, h⟩ := h
        refine e_iald (dx D_m_canPull 22 rfl) rfl hb3 ?_
        refine e_aload_n (dx D_m_canPull 23 rfl) rfl ?_
        refine e_getR (dx D_m_canPull 24 rfl) fl_RX9_34 rfl rfl ?_
        refine e_iload_n (dx D_m_canPull 25 rfl) rfl ?_
        obtain ⟨hb4, h⟩ := h
        refine e_iald (dx D_m_canPull 26 rfl) rfl hb4 ?_
        refine e_iand (dx D_m_canPull 27 rfl) ?_
        refine e_if_ne (tgt := 54) (dx D_m_canPull 28 rfl) (by decide) (fun c => ?_) (fun c => ?_)
        · replace h := h.2 c
          refine q_iconst (v := 0) (dx D_m_canPull 31 rfl) (by decide) ?_
          refine q_istore_n (L' := [some (.ref 34), some (.int x1), some (.int 0), some (.int x3)]) (dx D_m_canPull 32 rfl) (by decide) rfl ?_
          refine q_iinc (d := 1) (L' := [some (.ref 34), some (.int x1), some (.int 0), some (.int (x3 + 1))]) (dx D_m_canPull 33 rfl) rfl (by decide) (by decide) rfl ?_
          refine e_goto (tgt := 13) (dx D_m_canPull 34 rfl) (by decide) ?_
          exact h
        · replace h := h.1 c
          refine q_iconst (v := 1) (dx D_m_canPull 29 rfl) (by decide) ?_
          refine e_goto (tgt := 55) (dx D_m_canPull 30 rfl) (by decide) ?_
          refine q_istore_n (L' := [some (.ref 34), some (.int x1), some (.int 1), some (.int x3)]) (dx D_m_canPull 32 rfl) (by decide) rfl ?_
          refine q_iinc (d := 1) (L' := [some (.ref 34), some (.int x1), some (.int 1), some (.int (x3 + 1))]) (dx D_m_canPull 33 rfl) rfl (by decide) (by decide) rfl ?_
          refine e_goto (tgt := 13) (dx D_m_canPull 34 rfl) (by decide) ?_
          exact h
abbrev Cm_pulls (x1 : Int32) (g : Sg) (Q : Sg → Prop) : Prop := Cv Mm_pulls [.ref 34, .int x1] g Q
abbrev Hm_pulls_16 (x1 : Int32) (x2 : Int32) (g : Sg) (Q : Sg → Prop) : Prop := Hv Mm_pulls 16 [some (.ref 34), some (.int x1), some (.int x2)] [] g Q
set_option maxRecDepth 20000 in
theorem Vm_pulls {x1 : Int32} {g : Sg} {Q : Sg → Prop} (h : Hm_pulls_16 x1 0 (sgU g 34 15 ((g 34 15) &&& ((sb x1) ^^^ (-1)))) Q) : Cm_pulls x1 g Q := by
  refine Cl.of 1 pl_X9 rfl ?_
  refine e_aload_n (dx D_m_pulls 0 rfl) rfl ?_
  refine e_dup (dx D_m_pulls 1 rfl) rfl ?_
  refine e_getI (dx D_m_pulls 2 rfl) fl_RX9_165 rfl rfl ?_
  refine q_iconst (v := 1) (dx D_m_pulls 3 rfl) (by decide) ?_
  refine e_iload_n (dx D_m_pulls 4 rfl) rfl ?_
  refine e_ishl (dx D_m_pulls 5 rfl) ?_
  refine q_iconst (v := (-1)) (dx D_m_pulls 6 rfl) (by decide) ?_
  refine e_ixor (dx D_m_pulls 7 rfl) ?_
  refine e_iand (dx D_m_pulls 8 rfl) ?_
  refine e_putI (dx D_m_pulls 9 rfl) fp_RX9_165 rfl rfl ?_
  refine q_iconst (v := 0) (dx D_m_pulls 10 rfl) (by decide) ?_
  refine q_istore_n (L' := [some (.ref 34), some (.int x1), some (.int 0)]) (dx D_m_pulls 11 rfl) (by decide) rfl ?_
  exact h
set_option maxRecDepth 20000 in
theorem Vm_pulls_16 {x1 : Int32} {x2 : Int32} {g : Sg} {Q : Sg → Prop} (h : ((16 ≤ x2 → Q g) ∧ (¬ 16 ≤ x2 → vp_in x2 16 ∧ vp_in x1 16 ∧ (((tbb (g 43 (x1).toNatClampNeg) x2 = true) → vp_in x2 16 ∧ Hm_pulls_16 x1 (x2 + 1) (sgU g 44 (x2).toNatClampNeg ((g 44 (x2).toNatClampNeg) - 1)) Q) ∧ (¬ (tbb (g 43 (x1).toNatClampNeg) x2 = true) → vp_in x2 16 ∧ Hm_pulls_16 x1 (x2 + 1) (sgU g 44 (x2).toNatClampNeg ((g 44 (x2).toNatClampNeg) - 0)) Q))))) : Hm_pulls_16 x1 x2 g Q := by
  refine e_iload_n (dx D_m_pulls 12 rfl) rfl ?_
  refine q_bipush (v := 16) (dx D_m_pulls 13 rfl) (by decide) ?_
  refine e_icmp_ge (tgt := 55) (dx D_m_pulls 14 rfl) (by decide) (fun c => ?_) (fun c => ?_)
  · replace h := h.1 c
    exact e_vret (dx D_m_pulls 34 rfl) rfl ⟨rfl, h⟩
  · replace h := h.2 c
    refine e_aload_n (dx D_m_pulls 15 rfl) rfl ?_
    refine e_getR (dx D_m_pulls 16 rfl) fl_RX9_37 rfl rfl ?_
    refine e_iload_n (dx D_m_pulls 17 rfl) rfl ?_
    refine e_dup2 (dx D_m_pulls 18 rfl) rfl rfl ?_
    obtain ⟨hb1, h⟩ := h
    refine e_iald (dx D_m_pulls 19 rfl) rfl hb1 ?_
    refine e_aload_n (dx D_m_pulls 20 rfl) rfl ?_
    refine e_getR (dx D_m_pulls 21 rfl) fl_RX9_34 rfl rfl ?_
    refine e_iload_n (dx D_m_pulls 22 rfl) rfl ?_
    obtain ⟨hb2, h⟩ := h
    refine e_iald (dx D_m_pulls 23 rfl) rfl hb2 ?_
    refine e_iload_n (dx D_m_pulls 24 rfl) rfl ?_
    refine e_callSi (Q1 := fun r g' => bP (tbb (g 43 (x1).toNatClampNeg) x2 = true) = r ∧ g = g') (rest := [.int (g 44 (x2).toNatClampNeg), .int x2, .ref 44]) [.int (g 43 (x1).toNatClampNeg), .int x2] (dx D_m_pulls 25 rfl) ln_m_pulls_149 rfl rfl (Nat.le_of_ble_eq_true rfl) (Im_isIn  ⟨rfl, rfl⟩) (fun r g' hh => ?_)
    obtain ⟨rfl, rfl⟩ := hh
    refine e_if_eq (tgt := 46) (dx D_m_pulls 26 rfl) (by decide) (fun c => ?_) (fun c => ?_)
    · replace h := h.2 (bP_z c)
      refine q_iconst (v := 0) (dx D_m_pulls 29 rfl) (by decide) ?_
      refine e_isub (dx D_m_pulls 30 rfl) ?_
      obtain ⟨hb3, h⟩ := h
      refine e_iast (dx D_m_pulls 31 rfl) rfl hb3 ?_
      refine q_iinc (d := 1) (L' := [some (.ref 34), some (.int x1), some (.int (x2 + 1))]) (dx D_m_pulls 32 rfl) rfl (by decide) (by decide) rfl ?_
      refine e_goto (tgt := 16) (dx D_m_pulls 33 rfl) (by decide) ?_
      exact h
    · replace h := h.1 (bP_n c)
      refine q_iconst (v := 1) (dx D_m_pulls 27 rfl) (by decide) ?_
      refine e_goto (tgt := 47) (dx D_m_pulls 28 rfl) (by decide) ?_
      refine e_isub (dx D_m_pulls 30 rfl) ?_
      obtain ⟨hb4, h⟩ := h
      refine e_iast (dx D_m_pulls 31 rfl) rfl hb4 ?_
      refine q_iinc (d := 1) (L' := [some (.ref 34), some (.int x1), some (.int (x2 + 1))]) (dx D_m_pulls 32 rfl) rfl (by decide) (by decide) rfl ?_
      refine e_goto (tgt := 16) (dx D_m_pulls 33 rfl) (by decide) ?_
      exact h
abbrev Cm_goes (x1 : Int32) (g : Sg) (Q : Sg → Prop) : Prop := Cv Mm_goes [.ref 34, .int x1] g Q
abbrev Hm_goes_22 (x1 : Int32) (x2 : Int32) (g : Sg) (Q : Sg → Prop) : Prop := Hv Mm_goes 22 [some (.ref 34), some (.int x1), some (.int x2), none] [] g Q
abbrev Hm_goes_50 (x1 : Int32) (x2 : Int32) (g : Sg) (Q : Sg → Prop) : Prop := Hv Mm_goes 50 [some (.ref 34), some (.int x1), some (.int x2), none] [] g Q
abbrev Hm_goes_168 (x1 : Int32) (x2 : Int32) (x3 : Int32) (g : Sg) (Q : Sg → Prop) : Prop := Hv Mm_goes 168 [some (.ref 34), some (.int x1), some (.int x2), some (.int x3)] [] g Q
set_option maxRecDepth 20000 in
theorem Vm_goes {x1 : Int32} {g : Sg} {Q : Sg → Prop} (h : Cm_reads g (fun r2 g1 => Hm_goes_22 x1 0 (sgU (sgU (sgU g1 34 15 0) 34 16 0) 34 17 (-1)) Q)) : Cm_goes x1 g Q := by
  refine Cl.of 2 pl_X9 rfl ?_
  refine e_aload_n (dx D_m_goes 0 rfl) rfl ?_
  refine e_callVi (rest := []) [] (dx D_m_goes 1 rfl) ln_m_goes_118 rfl rfl rfl (Nat.le_of_ble_eq_true rfl) h (fun r2 g1 h => ?_)
  refine e_pop (dx D_m_goes 2 rfl) rfl ?_
  refine e_aload_n (dx D_m_goes 3 rfl) rfl ?_
  refine q_iconst (v := 0) (dx D_m_goes 4 rfl) (by decide) ?_
  refine e_putI (dx D_m_goes 5 rfl) fp_RX9_165 rfl rfl ?_
  refine e_aload_n (dx D_m_goes 6 rfl) rfl ?_
  refine q_iconst (v := 0) (dx D_m_goes 7 rfl) (by decide) ?_
  refine e_putI (dx D_m_goes 8 rfl) fp_RX9_168 rfl rfl ?_
  refine e_aload_n (dx D_m_goes 9 rfl) rfl ?_
  refine q_iconst (v := (-1)) (dx D_m_goes 10 rfl) (by decide) ?_
  refine e_putI (dx D_m_goes 11 rfl) fp_RX9_171 rfl rfl ?_
  refine q_iconst (v := 0) (dx D_m_goes 12 rfl) (by decide) ?_
  refine q_istore_n (L' := [some (.ref 34), some (.int x1), some (.int 0), none]) (dx D_m_goes 13 rfl) (by decide) rfl ?_
  exact h
set_option maxRecDepth 20000 in
theorem Vm_goes_22 {x1 : Int32} {x2 : Int32} {g : Sg} {Q : Sg → Prop} (h : ((16 ≤ x2 → Hm_goes_50 x1 0 g Q) ∧ (¬ 16 ≤ x2 → vp_in x2 16 ∧ vp_in x2 16 ∧ Hm_goes_22 x1 (x2 + 1) (sgU (sgU g 43 (x2).toNatClampNeg 0) 44 (x2).toNatClampNeg 0) Q))) : Hm_goes_22 x1 x2 g Q := by
  refine e_iload_n (dx D_m_goes 14 rfl) rfl ?_
  refine q_bipush (v := 16) (dx D_m_goes 15 rfl) (by decide) ?_
  refine e_icmp_ge (tgt := 48) (dx D_m_goes 16 rfl) (by decide) (fun c => ?_) (fun c => ?_)
  · replace h := h.1 c
    refine q_iconst (v := 0) (dx D_m_goes 29 rfl) (by decide) ?_
    refine q_istore_n (L' := [some (.ref 34), some (.int x1), some (.int 0), none]) (dx D_m_goes 30 rfl) (by decide) rfl ?_
    exact h
  · replace h := h.2 c
    refine e_aload_n (dx D_m_goes 17 rfl) rfl ?_
    refine e_getR (dx D_m_goes 18 rfl) fl_RX9_34 rfl rfl ?_
    refine e_iload_n (dx D_m_goes 19 rfl) rfl ?_
    refine q_iconst (v := 0) (dx D_m_goes 20 rfl) (by decide) ?_
    obtain ⟨hb1, h⟩ := h
    refine e_iast (dx D_m_goes 21 rfl) rfl hb1 ?_
    refine e_aload_n (dx D_m_goes 22 rfl) rfl ?_
    refine e_getR (dx D_m_goes 23 rfl) fl_RX9_37 rfl rfl ?_
    refine e_iload_n (dx D_m_goes 24 rfl) rfl ?_
    refine q_iconst (v := 0) (dx D_m_goes 25 rfl) (by decide) ?_
    obtain ⟨hb2, h⟩ := h
    refine e_iast (dx D_m_goes 26 rfl) rfl hb2 ?_
    refine q_iinc (d := 1) (L' := [some (.ref 34), some (.int x1), some (.int (x2 + 1)), none]) (dx D_m_goes 27 rfl) rfl (by decide) (by decide) rfl ?_
    refine e_goto (tgt := 22) (dx D_m_goes 28 rfl) (by decide) ?_
    exact h
set_option maxRecDepth 20000 in
theorem Vm_goes_50 {x1 : Int32} {x2 : Int32} {g : Sg} {Q : Sg → Prop} (h : ((x1 ≤ x2 → Q g) ∧ (¬ x1 ≤ x2 → vp_in (2 * x2) 32 ∧ (((g 42 (2 * x2).toNatClampNeg) = (-1) → vp_in ((2 * x2) + 1) 32 ∧ Cm_canPull (g 42 ((2 * x2) + 1).toNatClampNeg) g (fun r4 g3 => ((r4 = 0 → Hm_goes_168 x1 x2 0 g3 Q) ∧ (¬ r4 = 0 → vp_in ((2 * x2) + 1) 32 ∧ Cm_pulls (g3 42 ((2 * x2) + 1).toNatClampNeg) g3 (fun g6 => Hm_goes_168 x1 x2 1 g6 Q))))) ∧ (¬ (g 42 (2 * x2).toNatClampNeg) = (-1) → vp_in (2 * x2) 32 ∧ vp_in ((2 * x2) + 1) 32 ∧ Cm_draws (g 42 (2 * x2).toNatClampNeg) (g 42 ((2 * x2) + 1).toNatClampNeg) g (fun r10 g9 => vp_in x2 16 ∧ vp_in x2 16 ∧ ((((sgU g9 43 (x2).toNatClampNeg r10) 43 (x2).toNatClampNeg) = 0 → Hm_goes_168 x1 x2 0 (sgU (sgU g9 43 (x2).toNatClampNeg r10) 34 15 ((g9 34 15) ||| 0)) Q) ∧ (¬ ((sgU g9 43 (x2).toNatClampNeg r10) 43 (x2).toNatClampNeg) = 0 → Hm_goes_168 x1 x2 1 (sgU (sgU g9 43 (x2).toNatClampNeg r10) 34 15 ((g9 34 15) ||| (sb x2))) Q)))))))) : Hm_goes_50 x1 x2 g Q := by
  refine e_iload_n (dx D_m_goes 31 rfl) rfl ?_
  refine e_iload_n (dx D_m_goes 32 rfl) rfl ?_
  refine e_icmp_ge (tgt := 216) (dx D_m_goes 33 rfl) (by decide) (fun c => ?_) (fun c => ?_)
  · replace h := h.1 c
    exact e_vret (dx D_m_goes 133 rfl) rfl ⟨rfl, h⟩
  · replace h := h.2 c
    refine q_iconst (v := 0) (dx D_m_goes 34 rfl) (by decide) ?_
    refine q_istore_n (L' := [some (.ref 34), some (.int x1), some (.int x2), some (.int 0)]) (dx D_m_goes 35 rfl) (by decide) rfl ?_
    refine e_aload_n (dx D_m_goes 36 rfl) rfl ?_
    refine e_getR (dx D_m_goes 37 rfl) fl_RX9_31 rfl rfl ?_
    refine q_iconst (v := 2) (dx D_m_goes 38 rfl) (by decide) ?_
    refine e_iload_n (dx D_m_goes 39 rfl) rfl ?_
    refine e_imul (dx D_m_goes 40 rfl) ?_
    obtain ⟨hb1, h⟩ := h
    refine e_iald (dx D_m_goes 41 rfl) rfl hb1 ?_
    refine q_iconst (v := (-1)) (dx D_m_goes 42 rfl) (by decide) ?_
    refine e_icmp_eq (tgt := 135) (dx D_m_goes 43 rfl) (by decide) (fun c => ?_) (fun c => ?_)
    · replace h := h.1 c
      refine e_aload_n (dx D_m_goes 86 rfl) rfl ?_
      refine e_aload_n (dx D_m_goes 87 rfl) rfl ?_
      refine e_getR (dx D_m_goes 88 rfl) fl_RX9_31 rfl rfl ?_
      refine q_iconst (v := 2) (dx D_m_goes 89 rfl) (by decide) ?_
      refine e_iload_n (dx D_m_goes 90 rfl) rfl ?_
      refine e_imul (dx D_m_goes 91 rfl) ?_
      refine q_iconst (v := 1) (dx D_m_goes 92 rfl) (by decide) ?_
      refine e_iadd (dx D_m_goes 93 rfl) ?_
      obtain ⟨hb2, h⟩ := h
      refine e_iald (dx D_m_goes 94 rfl) rfl hb2 ?_
      refine e_callVi (rest := []) [.int (g 42 ((2 * x2) + 1).toNatClampNeg)] (dx D_m_goes 95 rfl) ln_m_goes_177 rfl rfl rfl (Nat.le_of_ble_eq_true rfl) h (fun r4 g3 h => ?_)
      refine e_if_eq (tgt := 168) (dx D_m_goes 96 rfl) (by decide) (fun c => ?_) (fun c => ?_)
      · replace h := h.1 c
        exact h
      · replace h := h.2 c
        refine e_aload_n (dx D_m_goes 97 rfl) rfl ?_
        refine e_aload_n (dx D_m_goes 98 rfl) rfl ?_
        refine e_getR (dx D_m_goes 99 rfl) fl_RX9_31 rfl rfl ?_
        refine q_iconst (v := 2) (dx D_m_goes 100 rfl) (by decide) ?_
        refine e_iload_n (dx D_m_goes 101 rfl) rfl ?_
        refine e_imul (dx D_m_goes 102 rfl) ?_
        refine q_iconst (v := 1) (dx D_m_goes 103 rfl) (by decide) ?_
        refine e_iadd (dx D_m_goes 104 rfl) ?_
        obtain ⟨hb5, h⟩ := h
        refine e_iald (dx D_m_goes 105 rfl) rfl hb5 ?_
        refine e_callVv (rest := []) [.int (g3 42 ((2 * x2) + 1).toNatClampNeg)] (dx D_m_goes 106 rfl) ln_m_goes_180 rfl rfl rfl (Nat.le_of_ble_eq_true rfl) h (fun g6 h => ?_)
        refine q_iconst (v := 1) (dx D_m_goes 107 rfl) (by decide) ?_
        refine q_istore_n (L' := [some (.ref 34), some (.int x1), some (.int x2), some (.int 1)]) (dx D_m_goes 108 rfl) (by decide) rfl ?_
        exact h
    · replace h := h.2 c
      refine e_aload_n (dx D_m_goes 44 rfl) rfl ?_
      refine e_getR (dx D_m_goes 45 rfl) fl_RX9_34 rfl rfl ?_
      refine e_iload_n (dx D_m_goes 46 rfl) rfl ?_
      refine e_aload_n (dx D_m_goes 47 rfl) rfl ?_
      refine e_aload_n (dx D_m_goes 48 rfl) rfl ?_
      refine e_getR (dx D_m_goes 49 rfl) fl_RX9_31 rfl rfl ?_
      refine q_iconst (v := 2) (dx D_m_goes 50 rfl) (by decide) ?_
      refine e_iload_n (dx D_m_goes 51 rfl) rfl ?_
      refine e_imul (dx D_m_goes 52 rfl) ?_
      obtain ⟨hb7, h⟩ := h
      refine e_iald (dx D_m_goes 53 rfl) rfl hb7 ?_
      refine e_aload_n (dx D_m_goes 54 rfl) rfl ?_
      refine e_getR (dx D_m_goes 55 rfl) fl_RX9_31 rfl rfl ?_
      refine q_iconst (v := 2) (dx D_m_goes 56 rfl) (by decide) ?_
      refine e_iload_n (dx D_m_goes 57 rfl) rfl ?_
      refine e_imul (dx D_m_goes 58 rfl) ?_
      refine q_iconst (v := 1) (dx D_m_goes 59 rfl) (by decide) ?_
      refine e_iadd (dx D_m_goes 60 rfl) ?_
      obtain ⟨hb8, h⟩ := h
      refine e_iald (dx D_m_goes 61 rfl) rfl hb8 ?_
      refine e_callVi (rest := [.int x2, .ref 43]) [.int (g 42 (2 * x2).toNatClampNeg), .int (g 42 ((2 * x2) + 1).toNatClampNeg)] (dx D_m_goes 62 rfl) ln_m_goes_174 rfl rfl rfl (Nat.le_of_ble_eq_true rfl) h (fun r10 g9 h => ?_)
      obtain ⟨hb11, h⟩ := h
      refine e_iast (dx D_m_goes 63 rfl) rfl hb11 ?_
      refine e_aload_n (dx D_m_goes 64 rfl) rfl ?_
      refine e_getR (dx D_m_goes 65 rfl) fl_RX9_34 rfl rfl ?_
      refine e_iload_n (dx D_m_goes 66 rfl) rfl ?_
      obtain ⟨hb12, h⟩ := h
      refine e_iald (dx D_m_goes 67 rfl) rfl hb12 ?_
      refine e_if_eq (tgt := 110) (dx D_m_goes 68 rfl) (by decide) (fun c => ?_) (fun c => ?_)
      · replace h := h.1 c
        refine q_iconst (v := 0) (dx D_m_goes 71 rfl) (by decide) ?_
        refine q_istore_n (L' := [some (.ref 34), some (.int x1), some (.int x2), some (.int 0)]) (dx D_m_goes 72 rfl) (by decide) rfl ?_
        refine e_aload_n (dx D_m_goes 73 rfl) rfl ?_
        refine e_dup (dx D_m_goes 74 rfl) rfl ?_
        refine e_getI (dx D_m_goes 75 rfl) fl_RX9_165 rfl rfl ?_
        refine e_iload_n (dx D_m_goes 76 rfl) rfl ?_
        refine e_if_eq (tgt := 127) (dx D_m_goes 77 rfl) (by decide) (fun c => ?_) (fun c => ?_)
        · skip
          refine q_iconst (v := 0) (dx D_m_goes 82 rfl) (by decide) ?_
          refine e_ior (dx D_m_goes 83 rfl) ?_
          refine e_putI (dx D_m_goes 84 rfl) fp_RX9_165 rfl rfl ?_
          refine e_goto (tgt := 168) (dx D_m_goes 85 rfl) (by decide) ?_
          exact h
        · exact absurd c (by decide)
      · replace h := h.2 c
        refine q_iconst (v := 1) (dx D_m_goes 69 rfl) (by decide) ?_
        refine e_goto (tgt := 111) (dx D_m_goes 70 rfl) (by decide) ?_
        refine q_istore_n (L' := [some (.ref 34), some (.int x1), some (.int x2), some (.int 1)]) (dx D_m_goes 72 rfl) (by decide) rfl ?_
        refine e_aload_n (dx D_m_goes 73 rfl) rfl ?_
        refine e_dup (dx D_m_goes 74 rfl) rfl ?_
        refine e_getI (dx D_m_goes 75 rfl) fl_RX9_165 rfl rfl ?_
        refine e_iload_n (dx D_m_goes 76 rfl) rfl ?_
        refine e_if_eq (tgt := 127) (dx D_m_goes 77 rfl) (by decide) (fun c => ?_) (fun c => ?_)
        · exact absurd c (by decide)
        · skip
          refine q_iconst (v := 1) (dx D_m_goes 78 rfl) (by decide) ?_
          refine e_iload_n (dx D_m_goes 79 rfl) rfl ?_
          refine e_ishl (dx D_m_goes 80 rfl) ?_
          refine e_goto (tgt := 128) (dx D_m_goes 81 rfl) (by decide) ?_
          refine e_ior (dx D_m_goes 83 rfl) ?_
          refine e_putI (dx D_m_goes 84 rfl) fp_RX9_165 rfl rfl ?_
          refine e_goto (tgt := 168) (dx D_m_goes 85 rfl) (by decide) ?_
          exact h
set_option maxRecDepth 20000 in
theorem Vm_goes_168 {x1 : Int32} {x2 : Int32} {x3 : Int32} {g : Sg} {Q : Sg → Prop} (h : ((x3 = 0 → ((x3 = 0 → (((g 34 17) = (-1) → Hm_goes_50 x1 (x2 + 1) (sgU (sgU g 34 16 ((g 34 16) + 0)) 34 17 x2) Q) ∧ (¬ (g 34 17) = (-1) → Hm_goes_50 x1 (x2 + 1) (sgU (sgU g 34 16 ((g 34 16) + 0)) 34 17 (g 34 17)) Q))) ∧ (¬ x3 = 0 → Hm_goes_50 x1 (x2 + 1) (sgU (sgU g 34 16 ((g 34 16) + 0)) 34 17 (g 34 17)) Q))) ∧ (¬ x3 = 0 → ((x3 = 0 → (((g 34 17) = (-1) → Hm_goes_50 x1 (x2 + 1) (sgU (sgU g 34 16 ((g 34 16) + 1)) 34 17 x2) Q) ∧ (¬ (g 34 17) = (-1) → Hm_goes_50 x1 (x2 + 1) (sgU (sgU g 34 16 ((g 34 16) + 1)) 34 17 (g 34 17)) Q))) ∧ (¬ x3 = 0 → Hm_goes_50 x1 (x2 + 1) (sgU (sgU g 34 16 ((g 34 16) + 1)) 34 17 (g 34 17)) Q))))) : Hm_goes_168 x1 x2 x3 g Q := by
  refine e_aload_n (dx D_m_goes 109 rfl) rfl ?_
  refine e_dup (dx D_m_goes 110 rfl) rfl ?_
  refine e_getI (dx D_m_goes 111 rfl) fl_RX9_168 rfl rfl ?_
  refine e_iload_n (dx D_m_goes 112 rfl) rfl ?_
  refine e_if_eq (tgt := 181) (dx D_m_goes 113 rfl) (by decide) (fun c => ?_) (fun c => ?_)
  · replace h := h.1 c
    refine q_iconst (v := 0) (dx D_m_goes 116 rfl) (by decide) ?_
    refine e_iadd (dx D_m_goes 117 rfl) ?_
    refine e_putI (dx D_m_goes 118 rfl) fp_RX9_168 rfl rfl ?_
    refine e_aload_n (dx D_m_goes 119 rfl) rfl ?_
    refine e_iload_n (dx D_m_goes 120 rfl) rfl ?_
    refine e_if_ne (tgt := 203) (dx D_m_goes 121 rfl) (by decide) (fun c => ?_) (fun c => ?_)
    · replace h := h.2 c
      refine e_aload_n (dx D_m_goes 128 rfl) rfl ?_
      refine e_getI (dx D_m_goes 129 rfl) fl_RX9_171 rfl rfl ?_
      refine e_putI (dx D_m_goes 130 rfl) fp_RX9_171 rfl rfl ?_
      refine q_iinc (d := 1) (L' := [some (.ref 34), some (.int x1), some (.int (x2 + 1)), some (.int x3)]) (dx D_m_goes 131 rfl) rfl (by decide) (by decide) rfl ?_
      refine e_goto (tgt := 50) (dx D_m_goes 132 rfl) (by decide) ?_
      exact Wp.mask [true, true, true, false] h
    · replace h := h.1 c
      refine e_aload_n (dx D_m_goes 122 rfl) rfl ?_
      refine e_getI (dx D_m_goes 123 rfl) fl_RX9_171 rfl rfl ?_
      refine q_iconst (v := (-1)) (dx D_m_goes 124 rfl) (by decide) ?_
      refine e_icmp_ne (tgt := 203) (dx D_m_goes 125 rfl) (by decide) (fun c => ?_) (fun c => ?_)
      · replace h := h.2 c
        refine e_aload_n (dx D_m_goes 128 rfl) rfl ?_
        refine e_getI (dx D_m_goes 129 rfl) fl_RX9_171 rfl rfl ?_
        refine e_putI (dx D_m_goes 130 rfl) fp_RX9_171 rfl rfl ?_
        refine q_iinc (d := 1) (L' := [some (.ref 34), some (.int x1), some (.int (x2 + 1)), some (.int x3)]) (dx D_m_goes 131 rfl) rfl (by decide) (by decide) rfl ?_
        refine e_goto (tgt := 50) (dx D_m_goes 132 rfl) (by decide) ?_
        exact Wp.mask [true, true, true, false] h
      · replace h := h.1 c
        refine e_iload_n (dx D_m_goes 126 rfl) rfl ?_
        refine e_goto (tgt := 207) (dx D_m_goes 127 rfl) (by decide) ?_
        refine e_putI (dx D_m_goes 130 rfl) fp_RX9_171 rfl rfl ?_
        refine q_iinc (d := 1) (L' := [some (.ref 34), some (.int x1), some (.int (x2 + 1)), some (.int x3)]) (dx D_m_goes 131 rfl) rfl (by decide) (by decide) rfl ?_
        refine e_goto (tgt := 50) (dx D_m_goes 132 rfl) (by decide) ?_
        exact Wp.mask [true, true, true, false] h
  · replace h := h.2 c
    refine q_iconst (v := 1) (dx D_m_goes 114 rfl) (by decide) ?_
    refine e_goto (tgt := 182) (dx D_m_goes 115 rfl) (by decide) ?_
    refine e_iadd (dx D_m_goes 117 rfl) ?_
    refine e_putI (dx D_m_goes 118 rfl) fp_RX9_168 rfl rfl ?_
    refine e_aload_n (dx D_m_goes 119 rfl) rfl ?_
    refine e_iload_n (dx D_m_goes 120 rfl) rfl ?_
    refine e_if_ne (tgt := 203) (dx D_m_goes 121 rfl) (by decide) (fun c => ?_) (fun c => ?_)
    · replace h := h.2 c
      refine e_aload_n (dx D_m_goes 128 rfl) rfl ?_
      refine e_getI (dx D_m_goes 129 rfl) fl_RX9_171 rfl rfl ?_
      refine e_putI (dx D_m_goes 130 rfl) fp_RX9_171 rfl rfl ?_
      refine q_iinc (d := 1) (L' := [some (.ref 34), some (.int x1), some (.int (x2 + 1)), some (.int x3)]) (dx D_m_goes 131 rfl) rfl (by decide) (by decide) rfl ?_
      refine e_goto (tgt := 50) (dx D_m_goes 132 rfl) (by decide) ?_
      exact Wp.mask [true, true, true, false] h
    · replace h := h.1 c
      refine e_aload_n (dx D_m_goes 122 rfl) rfl ?_
      refine e_getI (dx D_m_goes 123 rfl) fl_RX9_171 rfl rfl ?_
      refine q_iconst (v := (-1)) (dx D_m_goes 124 rfl) (by decide) ?_
      refine e_icmp_ne (tgt := 203) (dx D_m_goes 125 rfl) (by decide) (fun c => ?_) (fun c => ?_)
      · replace h := h.2 c
        refine e_aload_n (dx D_m_goes 128 rfl) rfl ?_
        refine e_getI (dx D_m_goes 129 rfl) fl_RX9_171 rfl rfl ?_
        refine e_putI (dx D_m_goes 130 rfl) fp_RX9_171 rfl rfl ?_
        refine q_iinc (d := 1) (L' := [some (.ref 34), some (.int x1), some (.int (x2 + 1)), some (.int x3)]) (dx D_m_goes 131 rfl) rfl (by decide) (by decide) rfl ?_
        refine e_goto (tgt := 50) (dx D_m_goes 132 rfl) (by decide) ?_
        exact Wp.mask [true, true, true, false] h
      · replace h := h.1 c
        refine e_iload_n (dx D_m_goes 126 rfl) rfl ?_
        refine e_goto (tgt := 207) (dx D_m_goes 127 rfl) (by decide) ?_
        refine e_putI (dx D_m_goes 130 rfl) fp_RX9_171 rfl rfl ?_
        refine q_iinc (d := 1) (L' := [some (.ref 34), some (.int x1), some (.int (x2 + 1)), some (.int x3)]) (dx D_m_goes 131 rfl) rfl (by decide) (by decide) rfl ?_
        refine e_goto (tgt := 50) (dx D_m_goes 132 rfl) (by decide) ?_
        exact Wp.mask [true, true, true, false] h
abbrev Cm_goesAll (g : Sg) (Q : Sg → Prop) : Prop := Cv Mm_goesAll [.ref 34] g Q
set_option maxRecDepth 20000 in
theorem Vm_goesAll {g : Sg} {Q : Sg → Prop} (h : Cm_goes (g 34 11) g (fun g1 => Q g1)) : Cm_goesAll g Q := by
  refine Cl.of 0 pl_X9 rfl ?_
  refine e_aload_n (dx D_m_goesAll 0 rfl) rfl ?_
  refine e_aload_n (dx D_m_goesAll 1 rfl) rfl ?_
  refine e_getI (dx D_m_goesAll 2 rfl) fl_RX9_133 rfl rfl ?_
  refine e_callVv (rest := []) [.int (g 34 11)] (dx D_m_goesAll 3 rfl) ln_m_goesAll_183 rfl rfl rfl (Nat.le_of_ble_eq_true rfl) h (fun g1 h => ?_)
  exact e_vret (dx D_m_goesAll 4 rfl) rfl ⟨rfl, h⟩
abbrev Cm_pipe (x1 : Int32) (x2 : Int32) (g : Sg) (Q : Int32 → Sg → Prop) : Prop := Ci Mm_pipe [.ref 34, .int x1, .int x2] g Q
set_option maxRecDepth 20000 in
theorem Vm_pipe {x1 : Int32} {x2 : Int32} {g : Sg} {Q : Int32 → Sg → Prop} (h : Cm_goesAll g (fun g1 => (((0 ≤ x1 ∧ x1 ≤ ((g1 34 8) - 1)) → (((0 ≤ x2 ∧ x2 ≤ 4) → ((x2 = 4 → vp_in x1 16 ∧ Q (g1 44 (x1).toNatClampNeg) g1) ∧ (¬ x2 = 4 → vp_in ((4 * x1) + x2) 64 ∧ Q (g1 40 ((4 * x1) + x2).toNatClampNeg) g1))) ∧ (¬ (0 ≤ x2 ∧ x2 ≤ 4) → Q (-2) g1))) ∧ (¬ (0 ≤ x1 ∧ x1 ≤ ((g1 34 8) - 1)) → Q (-2) g1)))) : Cm_pipe x1 x2 g Q := by
  refine Cl.of 0 pl_X9 rfl ?_
  refine e_aload_n (dx D_m_pipe 0 rfl) rfl ?_
  refine e_callVv (rest := []) [] (dx D_m_pipe 1 rfl) ln_m_pipe_186 rfl rfl rfl (Nat.le_of_ble_eq_true rfl) h (fun g1 h => ?_)
  refine e_iload_n (dx D_m_pipe 2 rfl) rfl ?_
  refine e_i2l (dx D_m_pipe 3 rfl) ?_
  refine q_lconst (v := 0) (dx D_m_pipe 4 rfl) (by decide) ?_
  refine e_aload_n (dx D_m_pipe 5 rfl) rfl ?_
  refine e_getI (dx D_m_pipe 6 rfl) fl_RX9_104 rfl rfl ?_
  refine q_iconst (v := 1) (dx D_m_pipe 7 rfl) (by decide) ?_
  refine e_isub (dx D_m_pipe 8 rfl) ?_
  refine e_i2l (dx D_m_pipe 9 rfl) ?_
  refine e_callSi (Q1 := fun r g' => bP (0 ≤ x1 ∧ x1 ≤ ((g1 34 8) - 1)) = r ∧ g1 = g') (rest := []) [.long (Int32.toInt64 x1), .long 0, .long (Int32.toInt64 ((g1 34 8) - 1))] (dx D_m_pipe 10 rfl) ln_m_pipe_70 rfl rfl (Nat.le_of_ble_eq_true rfl) (Im_in  ⟨(in32 (a := x1) (b := 0) (c := ((g1 34 8) - 1)) rfl (by decide) rfl).symm, rfl⟩) (fun r g' hh => ?_)
  obtain ⟨rfl, rfl⟩ := hh
  refine e_if_eq (tgt := 32) (dx D_m_pipe 11 rfl) (by decide) (fun c => ?_) (fun c => ?_)
  · replace h := h.2 (bP_z c)
    refine q_bipush (v := (-2)) (dx D_m_pipe 18 rfl) (by decide) ?_
    refine e_goto (tgt := 61) (dx D_m_pipe 19 rfl) (by decide) ?_
    exact e_iret (dx D_m_pipe 36 rfl) rfl rfl ⟨_, rfl, h⟩
  · replace h := h.1 (bP_n c)
    refine e_iload_n (dx D_m_pipe 12 rfl) rfl ?_
    refine e_i2l (dx D_m_pipe 13 rfl) ?_
    refine q_lconst (v := 0) (dx D_m_pipe 14 rfl) (by decide) ?_
    refine e_ldc2 (v := 4) (dx D_m_pipe 15 rfl) k1117 ?_
    refine e_callSi (Q1 := fun r g' => bP (0 ≤ x2 ∧ x2 ≤ 4) = r ∧ g1 = g') (rest := []) [.long (Int32.toInt64 x2), .long 0, .long 4] (dx D_m_pipe 16 rfl) ln_m_pipe_70 rfl rfl (Nat.le_of_ble_eq_true rfl) (Im_in  ⟨(in32 (a := x2) (b := 0) (c := 4) rfl (by decide) (by decide)).symm, rfl⟩) (fun r g' hh => ?_)
    obtain ⟨rfl, rfl⟩ := hh
    refine e_if_ne (tgt := 37) (dx D_m_pipe 17 rfl) (by decide) (fun c => ?_) (fun c => ?_)
    · replace h := h.1 (bP_n c)
      refine e_iload_n (dx D_m_pipe 20 rfl) rfl ?_
      refine q_iconst (v := 4) (dx D_m_pipe 21 rfl) (by decide) ?_
      refine e_icmp_ne (tgt := 51) (dx D_m_pipe 22 rfl) (by decide) (fun c => ?_) (fun c => ?_)
      · replace h := h.2 c
        refine e_aload_n (dx D_m_pipe 28 rfl) rfl ?_
        refine e_getR (dx D_m_pipe 29 rfl) fl_RX9_25 rfl rfl ?_
        refine q_iconst (v := 4) (dx D_m_pipe 30 rfl) (by decide) ?_
        refine e_iload_n (dx D_m_pipe 31 rfl) rfl ?_
        refine e_imul (dx D_m_pipe 32 rfl) ?_
        refine e_iload_n (dx D_m_pipe 33 rfl) rfl ?_
        refine e_iadd (dx D_m_pipe 34 rfl) ?_
        obtain ⟨hb2, h⟩ := h
        refine e_iald (dx D_m_pipe 35 rfl) rfl hb2 ?_
        exact e_iret (dx D_m_pipe 36 rfl) rfl rfl ⟨_, rfl, h⟩
      · replace h := h.1 c
        refine e_aload_n (dx D_m_pipe 23 rfl) rfl ?_
        refine e_getR (dx D_m_pipe 24 rfl) fl_RX9_37 rfl rfl ?_
        refine e_iload_n (dx D_m_pipe 25 rfl) rfl ?_
        obtain ⟨hb3, h⟩ := h
        refine e_iald (dx D_m_pipe 26 rfl) rfl hb3 ?_
        refine e_goto (tgt := 61) (dx D_m_pipe 27 rfl) (by decide) ?_
        exact e_iret (dx D_m_pipe 36 rfl) rfl rfl ⟨_, rfl, h⟩
    · replace h := h.2 (bP_z c)
      refine q_bipush (v := (-2)) (dx D_m_pipe 18 rfl) (by decide) ?_
      refine e_goto (tgt := 61) (dx D_m_pipe 19 rfl) (by decide) ?_
      exact e_iret (dx D_m_pipe 36 rfl) rfl rfl ⟨_, rfl, h⟩
abbrev Cm_judged (g : Sg) (Q : Int32 → Sg → Prop) : Prop := Ci Mm_judged [.ref 34] g Q
set_option maxRecDepth 20000 in
theorem Vm_judged {g : Sg} {Q : Int32 → Sg → Prop} (h : Cm_goesAll g (fun g1 => Q (g1 34 17) g1)) : Cm_judged g Q := by
  refine Cl.of 0 pl_X9 rfl ?_
  refine e_aload_n (dx D_m_judged 0 rfl) rfl ?_
  refine e_callVv (rest := []) [] (dx D_m_judged 1 rfl) ln_m_judged_186 rfl rfl rfl (Nat.le_of_ble_eq_true rfl) h (fun g1 h => ?_)
  refine e_aload_n (dx D_m_judged 2 rfl) rfl ?_
  refine e_getI (dx D_m_judged 3 rfl) fl_RX9_171 rfl rfl ?_
  exact e_iret (dx D_m_judged 4 rfl) rfl rfl ⟨_, rfl, h⟩
abbrev Cm_fullNow (g : Sg) (Q : Int32 → Sg → Prop) : Prop := Ci Mm_fullNow [.ref 34] g Q
abbrev Hm_fullNow_4 (x1 : Int32) (x2 : Int32) (g : Sg) (Q : Int32 → Sg → Prop) : Prop := Hi Mm_fullNow 4 [some (.ref 34), some (.int x1), some (.int x2)] [] g Q
set_option maxRecDepth 20000 in
theorem Vm_fullNow {g : Sg} {Q : Int32 → Sg → Prop} (h : Hm_fullNow_4 0 0 g Q) : Cm_fullNow g Q := by
  refine Cl.of 2 pl_X9 rfl ?_
  refine q_iconst (v := 0) (dx D_m_fullNow 0 rfl) (by decide) ?_
  refine q_istore_n (L' := [some (.ref 34), some (.int 0), none]) (dx D_m_fullNow 1 rfl) (by decide) rfl ?_
  refine q_iconst (v := 0) (dx D_m_fullNow 2 rfl) (by decide) ?_
  refine q_istore_n (L' := [some (.ref 34), some (.int 0), some (.int 0)]) (dx D_m_fullNow 3 rfl) (by decide) rfl ?_
  exact h
set_option maxRecDepth 20000 in
theorem Vm_fullNow_4 {x1 : Int32} {x2 : Int32} {g : Sg} {Q : Int32 → Sg → Prop} (h : (((g 34 8) ≤ x2 → Q x1 g) ∧ (¬ (g 34 8) ≤ x2 → vp_in x2 16 ∧ (((g 44 (x2).toNatClampNeg) < (g 41 1) → Hm_fullNow_4 (x1 ||| 0) (x2 + 1) g Q) ∧ (¬ (g 44 (x2).toNatClampNeg) < (g 41 1) → Hm_fullNow_4 (x1 ||| (sb x2)) (x2 + 1) g Q))))) : Hm_fullNow_4 x1 x2 g Q := by
  refine e_iload_n (dx D_m_fullNow 4 rfl) rfl ?_
  refine e_aload_n (dx D_m_fullNow 5 rfl) rfl ?_
  refine e_getI (dx D_m_fullNow 6 rfl) fl_RX9_104 rfl rfl ?_
  refine e_icmp_ge (tgt := 43) (dx D_m_fullNow 7 rfl) (by decide) (fun c => ?_) (fun c => ?_)
  · replace h := h.1 c
    refine e_iload_n (dx D_m_fullNow 27 rfl) rfl ?_
    exact e_iret (dx D_m_fullNow 28 rfl) rfl rfl ⟨_, rfl, h⟩
  · replace h := h.2 c
    refine e_iload_n (dx D_m_fullNow 8 rfl) rfl ?_
    refine e_aload_n (dx D_m_fullNow 9 rfl) rfl ?_
    refine e_getR (dx D_m_fullNow 10 rfl) fl_RX9_37 rfl rfl ?_
    refine e_iload_n (dx D_m_fullNow 11 rfl) rfl ?_
    obtain ⟨hb1, h⟩ := h
    refine e_iald (dx D_m_fullNow 12 rfl) rfl hb1 ?_
    refine e_aload_n (dx D_m_fullNow 13 rfl) rfl ?_
    refine e_getR (dx D_m_fullNow 14 rfl) fl_RX9_28 rfl rfl ?_
    refine q_iconst (v := 1) (dx D_m_fullNow 15 rfl) (by decide) ?_
    refine e_iald (dx D_m_fullNow 16 rfl) rfl (by unfold vp_in; decide) ?_
    refine e_icmp_lt (tgt := 34) (dx D_m_fullNow 17 rfl) (by decide) (fun c => ?_) (fun c => ?_)
    · replace h := h.1 c
      refine q_iconst (v := 0) (dx D_m_fullNow 22 rfl) (by decide) ?_
      refine e_ior (dx D_m_fullNow 23 rfl) ?_
      refine q_istore_n (L' := [some (.ref 34), some (.int (x1 ||| 0)), some (.int x2)]) (dx D_m_fullNow 24 rfl) (by decide) rfl ?_
      refine q_iinc (d := 1) (L' := [some (.ref 34), some (.int (x1 ||| 0)), some (.int (x2 + 1))]) (dx D_m_fullNow 25 rfl) rfl (by decide) (by decide) rfl ?_
      refine e_goto (tgt := 4) (dx D_m_fullNow 26 rfl) (by decide) ?_
      exact h
    · replace h := h.2 c
      refine q_iconst (v := 1) (dx D_m_fullNow 18 rfl) (by decide) ?_
      refine e_iload_n (dx D_m_fullNow 19 rfl) rfl ?_
      refine e_ishl (dx D_m_fullNow 20 rfl) ?_
      refine e_goto (tgt := 35) (dx D_m_fullNow 21 rfl) (by decide) ?_
      refine e_ior (dx D_m_fullNow 23 rfl) ?_
      refine q_istore_n (L' := [some (.ref 34), some (.int (x1 ||| (sb x2))), some (.int x2)]) (dx D_m_fullNow 24 rfl) (by decide) rfl ?_
      refine q_iinc (d := 1) (L' := [some (.ref 34), some (.int (x1 ||| (sb x2))), some (.int (x2 + 1))]) (dx D_m_fullNow 25 rfl) rfl (by decide) (by decide) rfl ?_
      refine e_goto (tgt := 4) (dx D_m_fullNow 26 rfl) (by decide) ?_
      exact h
abbrev Cm_stateOf (x1 : Int32) (x2 : Int32) (g : Sg) (Q : Int32 → Sg → Prop) : Prop := Ci Mm_stateOf [.ref 34, .int x1, .int x2] g Q
set_option maxRecDepth 20000 in
theorem Vm_stateOf {x1 : Int32} {x2 : Int32} {g : Sg} {Q : Int32 → Sg → Prop} (h : Cm_goes x1 g (fun g1 => ((x2 = 0 → Q (g1 34 15) g1) ∧ (¬ x2 = 0 → Cm_fullNow g1 (fun r3 g2 => Q r3 g2))))) : Cm_stateOf x1 x2 g Q := by
  refine Cl.of 0 pl_X9 rfl ?_
  refine e_aload_n (dx D_m_stateOf 0 rfl) rfl ?_
  refine e_iload_n (dx D_m_stateOf 1 rfl) rfl ?_
  refine e_callVv (rest := []) [.int x1] (dx D_m_stateOf 2 rfl) ln_m_stateOf_183 rfl rfl rfl (Nat.le_of_ble_eq_true rfl) h (fun g1 h => ?_)
  refine e_iload_n (dx D_m_stateOf 3 rfl) rfl ?_
  refine e_if_ne (tgt := 16) (dx D_m_stateOf 4 rfl) (by decide) (fun c => ?_) (fun c => ?_)
  · replace h := h.2 c
    refine e_aload_n (dx D_m_stateOf 8 rfl) rfl ?_
    refine e_callVi (rest := []) [] (dx D_m_stateOf 9 rfl) ln_m_stateOf_189 rfl rfl rfl (Nat.le_of_ble_eq_true rfl) h (fun r3 g2 h => ?_)
    exact e_iret (dx D_m_stateOf 10 rfl) rfl rfl ⟨_, rfl, h⟩
  · replace h := h.1 c
    refine e_aload_n (dx D_m_stateOf 5 rfl) rfl ?_
    refine e_getI (dx D_m_stateOf 6 rfl) fl_RX9_165 rfl rfl ?_
    refine e_goto (tgt := 20) (dx D_m_stateOf 7 rfl) (by decide) ?_
    exact e_iret (dx D_m_stateOf 10 rfl) rfl rfl ⟨_, rfl, h⟩
abbrev Cm_state (x1 : Int32) (x2 : Int32) (g : Sg) (Q : Int32 → Sg → Prop) : Prop := Ci Mm_state [.ref 34, .int x1, .int x2] g Q
set_option maxRecDepth 20000 in
theorem Vm_state {x1 : Int32} {x2 : Int32} {g : Sg} {Q : Int32 → Sg → Prop} (h : (((0 ≤ x1 ∧ x1 ≤ (g 34 11)) → (((0 ≤ x2 ∧ x2 ≤ 1) → Cm_stateOf x1 x2 g (fun r2 g1 => Q r2 g1)) ∧ (¬ (0 ≤ x2 ∧ x2 ≤ 1) → Q (-2) g))) ∧ (¬ (0 ≤ x1 ∧ x1 ≤ (g 34 11)) → Q (-2) g))) : Cm_state x1 x2 g Q := by
  refine Cl.of 0 pl_X9 rfl ?_
  refine e_iload_n (dx D_m_state 0 rfl) rfl ?_
  refine e_i2l (dx D_m_state 1 rfl) ?_
  refine q_lconst (v := 0) (dx D_m_state 2 rfl) (by decide) ?_
  refine e_aload_n (dx D_m_state 3 rfl) rfl ?_
  refine e_getI (dx D_m_state 4 rfl) fl_RX9_133 rfl rfl ?_
  refine e_i2l (dx D_m_state 5 rfl) ?_
  refine e_callSi (Q1 := fun r g' => bP (0 ≤ x1 ∧ x1 ≤ (g 34 11)) = r ∧ g = g') (rest := []) [.long (Int32.toInt64 x1), .long 0, .long (Int32.toInt64 (g 34 11))] (dx D_m_state 6 rfl) ln_m_state_70 rfl rfl (Nat.le_of_ble_eq_true rfl) (Im_in  ⟨(in32 (a := x1) (b := 0) (c := (g 34 11)) rfl (by decide) rfl).symm, rfl⟩) (fun r g' hh => ?_)
  obtain ⟨rfl, rfl⟩ := hh
  refine e_if_eq (tgt := 30) (dx D_m_state 7 rfl) (by decide) (fun c => ?_) (fun c => ?_)
  · replace h := h.2 (bP_z c)
    refine q_bipush (v := (-2)) (dx D_m_state 16 rfl) (by decide) ?_
    exact e_iret (dx D_m_state 17 rfl) rfl rfl ⟨_, rfl, h⟩
  · replace h := h.1 (bP_n c)
    refine e_iload_n (dx D_m_state 8 rfl) rfl ?_
    refine e_callSi (Q1 := fun r g' => bP (0 ≤ x2 ∧ x2 ≤ 1) = r ∧ g = g') (rest := []) [.int x2] (dx D_m_state 9 rfl) ln_m_state_192 rfl rfl (Nat.le_of_ble_eq_true rfl) (Im_isTwo  ⟨rfl, rfl⟩) (fun r g' hh => ?_)
    obtain ⟨rfl, rfl⟩ := hh
    refine e_if_eq (tgt := 30) (dx D_m_state 10 rfl) (by decide) (fun c => ?_) (fun c => ?_)
    · replace h := h.2 (bP_z c)
      refine q_bipush (v := (-2)) (dx D_m_state 16 rfl) (by decide) ?_
      exact e_iret (dx D_m_state 17 rfl) rfl rfl ⟨_, rfl, h⟩
    · replace h := h.1 (bP_n c)
      refine e_aload_n (dx D_m_state 11 rfl) rfl ?_
      refine e_iload_n (dx D_m_state 12 rfl) rfl ?_
      refine e_iload_n (dx D_m_state 13 rfl) rfl ?_
      refine e_callVi (rest := []) [.int x1, .int x2] (dx D_m_state 14 rfl) ln_m_state_195 rfl rfl rfl (Nat.le_of_ble_eq_true rfl) h (fun r2 g1 h => ?_)
      refine e_goto (tgt := 32) (dx D_m_state 15 rfl) (by decide) ?_
      exact e_iret (dx D_m_state 17 rfl) rfl rfl ⟨_, rfl, h⟩
abbrev Cm_wire (x1 : Int32) (x2 : Int32) (g : Sg) (Q : Int32 → Sg → Prop) : Prop := Ci Mm_wire [.ref 34, .int x1, .int x2] g Q
set_option maxRecDepth 20000 in
theorem Vm_wire {x1 : Int32} {x2 : Int32} {g : Sg} {Q : Int32 → Sg → Prop} (h : (((0 ≤ x1 ∧ x1 ≤ (g 34 11)) → (((isW x2) → Cm_goes x1 g (fun g1 => vp_in x2 16 ∧ Q (if tbb (g1 34 15) x2 = true then g1 43 (x2).toNatClampNeg else 0) g1)) ∧ (¬ (isW x2) → Q (-2) g))) ∧ (¬ (0 ≤ x1 ∧ x1 ≤ (g 34 11)) → Q (-2) g))) : Cm_wire x1 x2 g Q := by
  refine Cl.of 0 pl_X9 rfl ?_
  refine e_iload_n (dx D_m_wire 0 rfl) rfl ?_
  refine e_i2l (dx D_m_wire 1 rfl) ?_
  refine q_lconst (v := 0) (dx D_m_wire 2 rfl) (by decide) ?_
  refine e_aload_n (dx D_m_wire 3 rfl) rfl ?_
  refine e_getI (dx D_m_wire 4 rfl) fl_RX9_133 rfl rfl ?_
  refine e_i2l (dx D_m_wire 5 rfl) ?_
  refine e_callSi (Q1 := fun r g' => bP (0 ≤ x1 ∧ x1 ≤ (g 34 11)) = r ∧ g = g') (rest := []) [.long (Int32.toInt64 x1), .long 0, .long (Int32.toInt64 (g 34 11))] (dx D_m_wire 6 rfl) ln_m_wire_70 rfl rfl (Nat.le_of_ble_eq_true rfl) (Im_in  ⟨(in32 (a := x1) (b := 0) (c := (g 34 11)) rfl (by decide) rfl).symm, rfl⟩) (fun r g' hh => ?_)
  obtain ⟨rfl, rfl⟩ := hh
  refine e_if_eq (tgt := 21) (dx D_m_wire 7 rfl) (by decide) (fun c => ?_) (fun c => ?_)
  · replace h := h.2 (bP_z c)
    refine q_bipush (v := (-2)) (dx D_m_wire 11 rfl) (by decide) ?_
    exact e_iret (dx D_m_wire 12 rfl) rfl rfl ⟨_, rfl, h⟩
  · replace h := h.1 (bP_n c)
    refine e_iload_n (dx D_m_wire 8 rfl) rfl ?_
    refine e_callSi (Q1 := fun r g' => bP (isW x2) = r ∧ g = g') (rest := []) [.int x2] (dx D_m_wire 9 rfl) ln_m_wire_143 rfl rfl (Nat.le_of_ble_eq_true rfl) (Im_isWire  ⟨rfl, rfl⟩) (fun r g' hh => ?_)
    obtain ⟨rfl, rfl⟩ := hh
    refine e_if_ne (tgt := 24) (dx D_m_wire 10 rfl) (by decide) (fun c => ?_) (fun c => ?_)
    · replace h := h.1 (bP_n c)
      refine e_aload_n (dx D_m_wire 13 rfl) rfl ?_
      refine e_iload_n (dx D_m_wire 14 rfl) rfl ?_
      refine e_callVv (rest := []) [.int x1] (dx D_m_wire 15 rfl) ln_m_wire_183 rfl rfl rfl (Nat.le_of_ble_eq_true rfl) h (fun g1 h => ?_)
      refine e_aload_n (dx D_m_wire 16 rfl) rfl ?_
      refine e_iload_n (dx D_m_wire 17 rfl) rfl ?_
      obtain ⟨hb2, h⟩ := h
      refine e_callVi (Q1 := fun r g' => (if tbb (g1 34 15) x2 = true then g1 43 (x2).toNatClampNeg else 0) = r ∧ g1 = g') (rest := []) [.int x2] (dx D_m_wire 18 rfl) ln_m_wire_198 rfl rfl rfl (Nat.le_of_ble_eq_true rfl) (Im_pipesOf hb2 ⟨rfl, rfl⟩) (fun r g' hh => ?_)
      obtain ⟨rfl, rfl⟩ := hh
      exact e_iret (dx D_m_wire 19 rfl) rfl rfl ⟨_, rfl, h⟩
    · replace h := h.2 (bP_z c)
      refine q_bipush (v := (-2)) (dx D_m_wire 11 rfl) (by decide) ?_
      exact e_iret (dx D_m_wire 12 rfl) rfl rfl ⟨_, rfl, h⟩
abbrev Cm_outOf (x1 : Int32) (g : Sg) (Q : Int32 → Sg → Prop) : Prop := Ci Mm_outOf [.ref 34, .int x1] g Q
abbrev Hm_outOf_20 (x2 : Int32) (x3 : Int32) (g : Sg) (Q : Int32 → Sg → Prop) : Prop := Hi Mm_outOf 20 [some (.ref 34), none, some (.int x2), some (.int x3), none] [] g Q
abbrev Hm_outOf_31 (x2 : Int32) (x3 : Int32) (x4 : Int32) (g : Sg) (Q : Int32 → Sg → Prop) : Prop := Hi Mm_outOf 31 [some (.ref 34), none, some (.int x2), some (.int x3), some (.int x4)] [] g Q
set_option maxRecDepth 20000 in
theorem Vm_outOf {x1 : Int32} {g : Sg} {Q : Int32 → Sg → Prop} (h : (((tbb (g 34 15) x1 = true) → Hm_outOf_20 (sb x1) x1 g Q) ∧ (¬ (tbb (g 34 15) x1 = true) → Q (-3) g))) : Cm_outOf x1 g Q := by
  refine Cl.of 3 pl_X9 rfl ?_
  refine e_aload_n (dx D_m_outOf 0 rfl) rfl ?_
  refine e_getI (dx D_m_outOf 1 rfl) fl_RX9_165 rfl rfl ?_
  refine e_iload_n (dx D_m_outOf 2 rfl) rfl ?_
  refine e_callSi (Q1 := fun r g' => bP (tbb (g 34 15) x1 = true) = r ∧ g = g') (rest := []) [.int (g 34 15), .int x1] (dx D_m_outOf 3 rfl) ln_m_outOf_149 rfl rfl (Nat.le_of_ble_eq_true rfl) (Im_isIn  ⟨rfl, rfl⟩) (fun r g' hh => ?_)
  obtain ⟨rfl, rfl⟩ := hh
  refine e_if_ne (tgt := 14) (dx D_m_outOf 4 rfl) (by decide) (fun c => ?_) (fun c => ?_)
  · replace h := h.1 (bP_n c)
    refine q_iconst (v := 1) (dx D_m_outOf 7 rfl) (by decide) ?_
    refine e_iload_n (dx D_m_outOf 8 rfl) rfl ?_
    refine e_ishl (dx D_m_outOf 9 rfl) ?_
    refine q_istore_n (L' := [some (.ref 34), some (.int x1), some (.int (sb x1)), none, none]) (dx D_m_outOf 10 rfl) (by decide) rfl ?_
    refine e_iload_n (dx D_m_outOf 11 rfl) rfl ?_
    refine q_istore_n (L' := [some (.ref 34), some (.int x1), some (.int (sb x1)), some (.int x1), none]) (dx D_m_outOf 12 rfl) (by decide) rfl ?_
    exact Wp.mask [true, false, true, true, false] h
  · replace h := h.2 (bP_z c)
    refine q_bipush (v := (-3)) (dx D_m_outOf 5 rfl) (by decide) ?_
    exact e_iret (dx D_m_outOf 6 rfl) rfl rfl ⟨_, rfl, h⟩
set_option maxRecDepth 20000 in
theorem Vm_outOf_20 {x2 : Int32} {x3 : Int32} {g : Sg} {Q : Int32 → Sg → Prop} (h : ((16 ≤ x3 → Q x2 g) ∧ (¬ 16 ≤ x3 → Hm_outOf_31 x2 x3 (x3 + 1) g Q))) : Hm_outOf_20 x2 x3 g Q := by
  refine e_iload_n (dx D_m_outOf 13 rfl) rfl ?_
  refine q_bipush (v := 16) (dx D_m_outOf 14 rfl) (by decide) ?_
  refine e_icmp_ge (tgt := 85) (dx D_m_outOf 15 rfl) (by decide) (fun c => ?_) (fun c => ?_)
  · replace h := h.1 c
    refine e_iload_n (dx D_m_outOf 48 rfl) rfl ?_
    exact e_iret (dx D_m_outOf 49 rfl) rfl rfl ⟨_, rfl, h⟩
  · replace h := h.2 c
    refine e_iload_n (dx D_m_outOf 16 rfl) rfl ?_
    refine q_iconst (v := 1) (dx D_m_outOf 17 rfl) (by decide) ?_
    refine e_iadd (dx D_m_outOf 18 rfl) ?_
    refine q_istore (L' := [some (.ref 34), none, some (.int x2), some (.int x3), some (.int (x3 + 1))]) (dx D_m_outOf 19 rfl) (by decide) rfl ?_
    exact h
set_option maxRecDepth 20000 in
theorem Vm_outOf_31 {x2 : Int32} {x3 : Int32} {x4 : Int32} {g : Sg} {Q : Int32 → Sg → Prop} (h : ((16 ≤ x4 → Hm_outOf_20 x2 (x3 + 1) g Q) ∧ (¬ 16 ≤ x4 → (((tbb x2 x3 = true) → vp_in x4 16 ∧ vp_in x3 16 ∧ ((((if tbb (g 34 15) x4 = true then g 43 (x4).toNatClampNeg else 0) &&& (g 43 (x3).toNatClampNeg)) = 0 → Hm_outOf_31 (x2 ||| 0) x3 (x4 + 1) g Q) ∧ (¬ ((if tbb (g 34 15) x4 = true then g 43 (x4).toNatClampNeg else 0) &&& (g 43 (x3).toNatClampNeg)) = 0 → Hm_outOf_31 (x2 ||| (sb x4)) x3 (x4 + 1) g Q))) ∧ (¬ (tbb x2 x3 = true) → Hm_outOf_20 x2 (x3 + 1) g Q))))) : Hm_outOf_31 x2 x3 x4 g Q := by
  refine e_iload (dx D_m_outOf 20 rfl) rfl ?_
  refine q_bipush (v := 16) (dx D_m_outOf 21 rfl) (by decide) ?_
  refine e_icmp_ge (tgt := 79) (dx D_m_outOf 22 rfl) (by decide) (fun c => ?_) (fun c => ?_)
  · replace h := h.1 c
    refine q_iinc (d := 1) (L' := [some (.ref 34), none, some (.int x2), some (.int (x3 + 1)), some (.int x4)]) (dx D_m_outOf 46 rfl) rfl (by decide) (by decide) rfl ?_
    refine e_goto (tgt := 20) (dx D_m_outOf 47 rfl) (by decide) ?_
    exact Wp.mask [true, false, true, true, false] h
  · replace h := h.2 c
    refine e_iload_n (dx D_m_outOf 23 rfl) rfl ?_
    refine e_iload_n (dx D_m_outOf 24 rfl) rfl ?_
    refine e_callSi (Q1 := fun r g' => bP (tbb x2 x3 = true) = r ∧ g = g') (rest := []) [.int x2, .int x3] (dx D_m_outOf 25 rfl) ln_m_outOf_149 rfl rfl (Nat.le_of_ble_eq_true rfl) (Im_isIn  ⟨rfl, rfl⟩) (fun r g' hh => ?_)
    obtain ⟨rfl, rfl⟩ := hh
    refine e_if_eq (tgt := 79) (dx D_m_outOf 26 rfl) (by decide) (fun c => ?_) (fun c => ?_)
    · replace h := h.2 (bP_z c)
      refine q_iinc (d := 1) (L' := [some (.ref 34), none, some (.int x2), some (.int (x3 + 1)), some (.int x4)]) (dx D_m_outOf 46 rfl) rfl (by decide) (by decide) rfl ?_
      refine e_goto (tgt := 20) (dx D_m_outOf 47 rfl) (by decide) ?_
      exact Wp.mask [true, false, true, true, false] h
    · replace h := h.1 (bP_n c)
      refine e_iload_n (dx D_m_outOf 27 rfl) rfl ?_
      refine e_aload_n (dx D_m_outOf 28 rfl) rfl ?_
      refine e_iload (dx D_m_outOf 29 rfl) rfl ?_
      obtain ⟨hb1, h⟩ := h
      refine e_callVi (Q1 := fun r g' => (if tbb (g 34 15) x4 = true then g 43 (x4).toNatClampNeg else 0) = r ∧ g = g') (rest := [.int x2]) [.int x4] (dx D_m_outOf 30 rfl) ln_m_outOf_198 rfl rfl rfl (Nat.le_of_ble_eq_true rfl) (Im_pipesOf hb1 ⟨rfl, rfl⟩) (fun r g' hh => ?_)
      obtain ⟨rfl, rfl⟩ := hh
      refine e_aload_n (dx D_m_outOf 31 rfl) rfl ?_
      refine e_getR (dx D_m_outOf 32 rfl) fl_RX9_34 rfl rfl ?_
      refine e_iload_n (dx D_m_outOf 33 rfl) rfl ?_
      obtain ⟨hb2, h⟩ := h
      refine e_iald (dx D_m_outOf 34 rfl) rfl hb2 ?_
      refine e_iand (dx D_m_outOf 35 rfl) ?_
      refine e_if_eq (tgt := 70) (dx D_m_outOf 36 rfl) (by decide) (fun c => ?_) (fun c => ?_)
      · replace h := h.1 c
        refine q_iconst (v := 0) (dx D_m_outOf 41 rfl) (by decide) ?_
        refine e_ior (dx D_m_outOf 42 rfl) ?_
        refine q_istore_n (L' := [some (.ref 34), none, some (.int (x2 ||| 0)), some (.int x3), some (.int x4)]) (dx D_m_outOf 43 rfl) (by decide) rfl ?_
        refine q_iinc (d := 1) (L' := [some (.ref 34), none, some (.int (x2 ||| 0)), some (.int x3), some (.int (x4 + 1))]) (dx D_m_outOf 44 rfl) rfl (by decide) (by decide) rfl ?_
        refine e_goto (tgt := 31) (dx D_m_outOf 45 rfl) (by decide) ?_
        exact h
      · replace h := h.2 c
        refine q_iconst (v := 1) (dx D_m_outOf 37 rfl) (by decide) ?_
        refine e_iload (dx D_m_outOf 38 rfl) rfl ?_
        refine e_ishl (dx D_m_outOf 39 rfl) ?_
        refine e_goto (tgt := 71) (dx D_m_outOf 40 rfl) (by decide) ?_
        refine e_ior (dx D_m_outOf 42 rfl) ?_
        refine q_istore_n (L' := [some (.ref 34), none, some (.int (x2 ||| (sb x4))), some (.int x3), some (.int x4)]) (dx D_m_outOf 43 rfl) (by decide) rfl ?_
        refine q_iinc (d := 1) (L' := [some (.ref 34), none, some (.int (x2 ||| (sb x4))), some (.int x3), some (.int (x4 + 1))]) (dx D_m_outOf 44 rfl) rfl (by decide) (by decide) rfl ?_
        refine e_goto (tgt := 31) (dx D_m_outOf 45 rfl) (by decide) ?_
        exact h
abbrev Cm_out (x1 : Int32) (g : Sg) (Q : Int32 → Sg → Prop) : Prop := Ci Mm_out [.ref 34, .int x1] g Q
set_option maxRecDepth 20000 in
theorem Vm_out {x1 : Int32} {g : Sg} {Q : Int32 → Sg → Prop} (h : Cm_goesAll g (fun g1 => (((isW x1) → Cm_outOf x1 g1 (fun r3 g2 => Q r3 g2)) ∧ (¬ (isW x1) → Q (-2) g1)))) : Cm_out x1 g Q := by
  refine Cl.of 0 pl_X9 rfl ?_
  refine e_aload_n (dx D_m_out 0 rfl) rfl ?_
  refine e_callVv (rest := []) [] (dx D_m_out 1 rfl) ln_m_out_186 rfl rfl rfl (Nat.le_of_ble_eq_true rfl) h (fun g1 h => ?_)
  refine e_iload_n (dx D_m_out 2 rfl) rfl ?_
  refine e_callSi (Q1 := fun r g' => bP (isW x1) = r ∧ g1 = g') (rest := []) [.int x1] (dx D_m_out 3 rfl) ln_m_out_143 rfl rfl (Nat.le_of_ble_eq_true rfl) (Im_isWire  ⟨rfl, rfl⟩) (fun r g' hh => ?_)
  obtain ⟨rfl, rfl⟩ := hh
  refine e_if_eq (tgt := 19) (dx D_m_out 4 rfl) (by decide) (fun c => ?_) (fun c => ?_)
  · replace h := h.2 (bP_z c)
    refine q_bipush (v := (-2)) (dx D_m_out 9 rfl) (by decide) ?_
    exact e_iret (dx D_m_out 10 rfl) rfl rfl ⟨_, rfl, h⟩
  · replace h := h.1 (bP_n c)
    refine e_aload_n (dx D_m_out 5 rfl) rfl ?_
    refine e_iload_n (dx D_m_out 6 rfl) rfl ?_
    refine e_callVi (rest := []) [.int x1] (dx D_m_out 7 rfl) ln_m_out_201 rfl rfl rfl (Nat.le_of_ble_eq_true rfl) h (fun r3 g2 h => ?_)
    refine e_goto (tgt := 21) (dx D_m_out 8 rfl) (by decide) ?_
    exact e_iret (dx D_m_out 10 rfl) rfl rfl ⟨_, rfl, h⟩
abbrev Cm_shortestOf (x1 : Int32) (x2 : Int32) (x3 : Int32) (g : Sg) (Q : Int32 → Sg → Prop) : Prop := Ci Mm_shortestOf [.ref 34, .int x1, .int x2, .int x3] g Q
set_option maxRecDepth 20000 in
theorem Vm_shortestOf {x1 : Int32} {x2 : Int32} {x3 : Int32} {g : Sg} {Q : Int32 → Sg → Prop} (h : Cm_findWay x1 x2 g (fun r2 g1 => ((r2 = (-1) → Q (-1) g1) ∧ (¬ r2 = (-1) → ((x3 = (-1) → vp_in x1 8 ∧ Q (g1 45 (x1).toNatClampNeg) g1) ∧ (¬ x3 = (-1) → ((r2 ≤ x3 → Q (-1) g1) ∧ (¬ r2 ≤ x3 → vp_in x3 16 ∧ Q (g1 46 (x3).toNatClampNeg) g1)))))))) : Cm_shortestOf x1 x2 x3 g Q := by
  refine Cl.of 1 pl_X9 rfl ?_
  refine e_aload_n (dx D_m_shortestOf 0 rfl) rfl ?_
  refine e_iload_n (dx D_m_shortestOf 1 rfl) rfl ?_
  refine e_iload_n (dx D_m_shortestOf 2 rfl) rfl ?_
  refine e_callVi (rest := []) [.int x1, .int x2] (dx D_m_shortestOf 3 rfl) ln_m_shortestOf_162 rfl rfl rfl (Nat.le_of_ble_eq_true rfl) h (fun r2 g1 h => ?_)
  refine q_istore (L' := [some (.ref 34), some (.int x1), some (.int x2), some (.int x3), some (.int r2)]) (dx D_m_shortestOf 4 rfl) (by decide) rfl ?_
  refine e_iload (dx D_m_shortestOf 5 rfl) rfl ?_
  refine q_iconst (v := (-1)) (dx D_m_shortestOf 6 rfl) (by decide) ?_
  refine e_icmp_ne (tgt := 18) (dx D_m_shortestOf 7 rfl) (by decide) (fun c => ?_) (fun c => ?_)
  · replace h := h.2 c
    refine e_iload_n (dx D_m_shortestOf 10 rfl) rfl ?_
    refine q_iconst (v := (-1)) (dx D_m_shortestOf 11 rfl) (by decide) ?_
    refine e_icmp_ne (tgt := 32) (dx D_m_shortestOf 12 rfl) (by decide) (fun c => ?_) (fun c => ?_)
    · replace h := h.2 c
      refine e_iload_n (dx D_m_shortestOf 18 rfl) rfl ?_
      refine e_iload (dx D_m_shortestOf 19 rfl) rfl ?_
      refine e_icmp_ge (tgt := 47) (dx D_m_shortestOf 20 rfl) (by decide) (fun c => ?_) (fun c => ?_)
      · replace h := h.1 c
        refine q_iconst (v := (-1)) (dx D_m_shortestOf 26 rfl) (by decide) ?_
        exact e_iret (dx D_m_shortestOf 27 rfl) rfl rfl ⟨_, rfl, h⟩
      · replace h := h.2 c
        refine e_aload_n (dx D_m_shortestOf 21 rfl) rfl ?_
        refine e_getR (dx D_m_shortestOf 22 rfl) fl_RX9_43 rfl rfl ?_
        refine e_iload_n (dx D_m_shortestOf 23 rfl) rfl ?_
        obtain ⟨hb3, h⟩ := h
        refine e_iald (dx D_m_shortestOf 24 rfl) rfl hb3 ?_
        refine e_goto (tgt := 48) (dx D_m_shortestOf 25 rfl) (by decide) ?_
        exact e_iret (dx D_m_shortestOf 27 rfl) rfl rfl ⟨_, rfl, h⟩
    · replace h := h.1 c
      refine e_aload_n (dx D_m_shortestOf 13 rfl) rfl ?_
      refine e_getR (dx D_m_shortestOf 14 rfl) fl_RX9_40 rfl rfl ?_
      refine e_iload_n (dx D_m_shortestOf 15 rfl) rfl ?_
      obtain ⟨hb4, h⟩ := h
      refine e_iald (dx D_m_shortestOf 16 rfl) rfl hb4 ?_
      refine e_goto (tgt := 48) (dx D_m_shortestOf 17 rfl) (by decide) ?_
      exact e_iret (dx D_m_shortestOf 27 rfl) rfl rfl ⟨_, rfl, h⟩
  · replace h := h.1 c
    refine q_iconst (v := (-1)) (dx D_m_shortestOf 8 rfl) (by decide) ?_
    refine e_goto (tgt := 48) (dx D_m_shortestOf 9 rfl) (by decide) ?_
    exact e_iret (dx D_m_shortestOf 27 rfl) rfl rfl ⟨_, rfl, h⟩
abbrev Cm_shortest (x1 : Int32) (x2 : Int32) (x3 : Int32) (g : Sg) (Q : Int32 → Sg → Prop) : Prop := Ci Mm_shortest [.ref 34, .int x1, .int x2, .int x3] g Q
set_option maxRecDepth 20000 in
theorem Vm_shortest {x1 : Int32} {x2 : Int32} {x3 : Int32} {g : Sg} {Q : Int32 → Sg → Prop} (h : Cm_goesAll g (fun g1 => (((twoE x1 x2) → ((x3 < (-1) → Q (-2) g1) ∧ (¬ x3 < (-1) → Cm_shortestOf x1 x2 x3 g1 (fun r3 g2 => Q r3 g2)))) ∧ (¬ (twoE x1 x2) → Q (-2) g1)))) : Cm_shortest x1 x2 x3 g Q := by
  refine Cl.of 0 pl_X9 rfl ?_
  refine e_aload_n (dx D_m_shortest 0 rfl) rfl ?_
  refine e_callVv (rest := []) [] (dx D_m_shortest 1 rfl) ln_m_shortest_186 rfl rfl rfl (Nat.le_of_ble_eq_true rfl) h (fun g1 h => ?_)
  refine e_iload_n (dx D_m_shortest 2 rfl) rfl ?_
  refine e_iload_n (dx D_m_shortest 3 rfl) rfl ?_
  refine e_callSi (Q1 := fun r g' => bP (twoE x1 x2) = r ∧ g1 = g') (rest := []) [.int x1, .int x2] (dx D_m_shortest 4 rfl) ln_m_shortest_136 rfl rfl (Nat.le_of_ble_eq_true rfl) (Im_areEnds  ⟨rfl, rfl⟩) (fun r g' hh => ?_)
  obtain ⟨rfl, rfl⟩ := hh
  refine e_if_eq (tgt := 27) (dx D_m_shortest 5 rfl) (by decide) (fun c => ?_) (fun c => ?_)
  · replace h := h.2 (bP_z c)
    refine q_bipush (v := (-2)) (dx D_m_shortest 15 rfl) (by decide) ?_
    exact e_iret (dx D_m_shortest 16 rfl) rfl rfl ⟨_, rfl, h⟩
  · replace h := h.1 (bP_n c)
    refine e_iload_n (dx D_m_shortest 6 rfl) rfl ?_
    refine q_iconst (v := (-1)) (dx D_m_shortest 7 rfl) (by decide) ?_
    refine e_icmp_lt (tgt := 27) (dx D_m_shortest 8 rfl) (by decide) (fun c => ?_) (fun c => ?_)
    · replace h := h.1 c
      refine q_bipush (v := (-2)) (dx D_m_shortest 15 rfl) (by decide) ?_
      exact e_iret (dx D_m_shortest 16 rfl) rfl rfl ⟨_, rfl, h⟩
    · replace h := h.2 c
      refine e_aload_n (dx D_m_shortest 9 rfl) rfl ?_
      refine e_iload_n (dx D_m_shortest 10 rfl) rfl ?_
      refine e_iload_n (dx D_m_shortest 11 rfl) rfl ?_
      refine e_iload_n (dx D_m_shortest 12 rfl) rfl ?_
      refine e_callVi (rest := []) [.int x1, .int x2, .int x3] (dx D_m_shortest 13 rfl) ln_m_shortest_204 rfl rfl rfl (Nat.le_of_ble_eq_true rfl) h (fun r3 g2 h => ?_)
      refine e_goto (tgt := 29) (dx D_m_shortest 14 rfl) (by decide) ?_
      exact e_iret (dx D_m_shortest 16 rfl) rfl rfl ⟨_, rfl, h⟩
abbrev Cm_keeps (g : Sg) (Q : Sg → Prop) : Prop := Cv Mm_keeps [.ref 34] g Q
abbrev Hm_keeps_2 (x1 : Int32) (g : Sg) (Q : Sg → Prop) : Prop := Hv Mm_keeps 2 [some (.ref 34), some (.int x1)] [] g Q
set_option maxRecDepth 20000 in
theorem Vm_keeps {g : Sg} {Q : Sg → Prop} (h : Hm_keeps_2 0 g Q) : Cm_keeps g Q := by
  refine Cl.of 1 pl_X9 rfl ?_
  refine q_iconst (v := 0) (dx D_m_keeps 0 rfl) (by decide) ?_
  refine q_istore_n (L' := [some (.ref 34), some (.int 0)]) (dx D_m_keeps 1 rfl) (by decide) rfl ?_
  exact h
set_option maxRecDepth 20000 in
theorem Vm_keeps_2 {x1 : Int32} {g : Sg} {Q : Sg → Prop} (h : ((16 ≤ x1 → Q g) ∧ (¬ 16 ≤ x1 → vp_in x1 16 ∧ vp_in x1 16 ∧ Hm_keeps_2 (x1 + 1) (sgU g 47 (x1).toNatClampNeg (g 44 (x1).toNatClampNeg)) Q))) : Hm_keeps_2 x1 g Q := by
  refine e_iload_n (dx D_m_keeps 2 rfl) rfl ?_
  refine q_bipush (v := 16) (dx D_m_keeps 3 rfl) (by decide) ?_
  refine e_icmp_ge (tgt := 26) (dx D_m_keeps 4 rfl) (by decide) (fun c => ?_) (fun c => ?_)
  · replace h := h.1 c
    exact e_vret (dx D_m_keeps 15 rfl) rfl ⟨rfl, h⟩
  · replace h := h.2 c
    refine e_aload_n (dx D_m_keeps 5 rfl) rfl ?_
    refine e_getR (dx D_m_keeps 6 rfl) fl_RX9_46 rfl rfl ?_
    refine e_iload_n (dx D_m_keeps 7 rfl) rfl ?_
    refine e_aload_n (dx D_m_keeps 8 rfl) rfl ?_
    refine e_getR (dx D_m_keeps 9 rfl) fl_RX9_37 rfl rfl ?_
    refine e_iload_n (dx D_m_keeps 10 rfl) rfl ?_
    obtain ⟨hb1, h⟩ := h
    refine e_iald (dx D_m_keeps 11 rfl) rfl hb1 ?_
    obtain ⟨hb2, h⟩ := h
    refine e_iast (dx D_m_keeps 12 rfl) rfl hb2 ?_
    refine q_iinc (d := 1) (L' := [some (.ref 34), some (.int (x1 + 1))]) (dx D_m_keeps 13 rfl) rfl (by decide) (by decide) rfl ?_
    refine e_goto (tgt := 2) (dx D_m_keeps 14 rfl) (by decide) ?_
    exact h
abbrev Cm_putsBack (g : Sg) (Q : Sg → Prop) : Prop := Cv Mm_putsBack [.ref 34] g Q
abbrev Hm_putsBack_2 (x1 : Int32) (g : Sg) (Q : Sg → Prop) : Prop := Hv Mm_putsBack 2 [some (.ref 34), some (.int x1)] [] g Q
set_option maxRecDepth 20000 in
theorem Vm_putsBack {g : Sg} {Q : Sg → Prop} (h : Hm_putsBack_2 0 g Q) : Cm_putsBack g Q := by
  refine Cl.of 1 pl_X9 rfl ?_
  refine q_iconst (v := 0) (dx D_m_putsBack 0 rfl) (by decide) ?_
  refine q_istore_n (L' := [some (.ref 34), some (.int 0)]) (dx D_m_putsBack 1 rfl) (by decide) rfl ?_
  exact h
set_option maxRecDepth 20000 in
theorem Vm_putsBack_2 {x1 : Int32} {g : Sg} {Q : Sg → Prop} (h : ((16 ≤ x1 → Q g) ∧ (¬ 16 ≤ x1 → vp_in x1 16 ∧ vp_in x1 16 ∧ Hm_putsBack_2 (x1 + 1) (sgU g 44 (x1).toNatClampNeg (g 47 (x1).toNatClampNeg)) Q))) : Hm_putsBack_2 x1 g Q := by
  refine e_iload_n (dx D_m_putsBack 2 rfl) rfl ?_
  refine q_bipush (v := 16) (dx D_m_putsBack 3 rfl) (by decide) ?_
  refine e_icmp_ge (tgt := 26) (dx D_m_putsBack 4 rfl) (by decide) (fun c => ?_) (fun c => ?_)
  · replace h := h.1 c
    exact e_vret (dx D_m_putsBack 15 rfl) rfl ⟨rfl, h⟩
  · replace h := h.2 c
    refine e_aload_n (dx D_m_putsBack 5 rfl) rfl ?_
    refine e_getR (dx D_m_putsBack 6 rfl) fl_RX9_37 rfl rfl ?_
    refine e_iload_n (dx D_m_putsBack 7 rfl) rfl ?_
    refine e_aload_n (dx D_m_putsBack 8 rfl) rfl ?_
    refine e_getR (dx D_m_putsBack 9 rfl) fl_RX9_46 rfl rfl ?_
    refine e_iload_n (dx D_m_putsBack 10 rfl) rfl ?_
    obtain ⟨hb1, h⟩ := h
    refine e_iald (dx D_m_putsBack 11 rfl) rfl hb1 ?_
    obtain ⟨hb2, h⟩ := h
    refine e_iast (dx D_m_putsBack 12 rfl) rfl hb2 ?_
    refine q_iinc (d := 1) (L' := [some (.ref 34), some (.int (x1 + 1))]) (dx D_m_putsBack 13 rfl) rfl (by decide) (by decide) rfl ?_
    refine e_goto (tgt := 2) (dx D_m_putsBack 14 rfl) (by decide) ?_
    exact h
abbrev Cm_drawnOf (x1 : Int32) (x2 : Int32) (g : Sg) (Q : Int32 → Sg → Prop) : Prop := Ci Mm_drawnOf [.ref 34, .int x1, .int x2] g Q
abbrev Hm_drawnOf_6 (x1 : Int32) (x2 : Int32) (x3 : Int32) (g : Sg) (Q : Int32 → Sg → Prop) : Prop := Hi Mm_drawnOf 6 [some (.ref 34), some (.int x1), some (.int x2), some (.int x3)] [] g Q
set_option maxRecDepth 20000 in
theorem Vm_drawnOf {x1 : Int32} {x2 : Int32} {g : Sg} {Q : Int32 → Sg → Prop} (h : Cm_keeps g (fun g1 => Hm_drawnOf_6 x1 x2 0 g1 Q)) : Cm_drawnOf x1 x2 g Q := by
  refine Cl.of 1 pl_X9 rfl ?_
  refine e_aload_n (dx D_m_drawnOf 0 rfl) rfl ?_
  refine e_callVv (rest := []) [] (dx D_m_drawnOf 1 rfl) ln_m_drawnOf_207 rfl rfl rfl (Nat.le_of_ble_eq_true rfl) h (fun g1 h => ?_)
  refine q_iconst (v := 0) (dx D_m_drawnOf 2 rfl) (by decide) ?_
  refine q_istore_n (L' := [some (.ref 34), some (.int x1), some (.int x2), some (.int 0)]) (dx D_m_drawnOf 3 rfl) (by decide) rfl ?_
  exact h
set_option maxRecDepth 20000 in
theorem Vm_drawnOf_6 {x1 : Int32} {x2 : Int32} {x3 : Int32} {g : Sg} {Q : Int32 → Sg → Prop} (h : Cm_draws x1 x2 g (fun r2 g1 => ((r2 = 0 → Cm_putsBack g1 (fun g3 => Q x3 g3)) ∧ (¬ r2 = 0 → Hm_drawnOf_6 x1 x2 (x3 + 1) g1 Q)))) : Hm_drawnOf_6 x1 x2 x3 g Q := by
  refine e_aload_n (dx D_m_drawnOf 4 rfl) rfl ?_
  refine e_iload_n (dx D_m_drawnOf 5 rfl) rfl ?_
  refine e_iload_n (dx D_m_drawnOf 6 rfl) rfl ?_
  refine e_callVi (rest := []) [.int x1, .int x2] (dx D_m_drawnOf 7 rfl) ln_m_drawnOf_174 rfl rfl rfl (Nat.le_of_ble_eq_true rfl) h (fun r2 g1 h => ?_)
  refine e_if_eq (tgt := 21) (dx D_m_drawnOf 8 rfl) (by decide) (fun c => ?_) (fun c => ?_)
  · replace h := h.1 c
    refine e_aload_n (dx D_m_drawnOf 11 rfl) rfl ?_
    refine e_callVv (rest := []) [] (dx D_m_drawnOf 12 rfl) ln_m_drawnOf_210 rfl rfl rfl (Nat.le_of_ble_eq_true rfl) h (fun g3 h => ?_)
    refine e_iload_n (dx D_m_drawnOf 13 rfl) rfl ?_
    exact e_iret (dx D_m_drawnOf 14 rfl) rfl rfl ⟨_, rfl, h⟩
  · replace h := h.2 c
    refine q_iinc (d := 1) (L' := [some (.ref 34), some (.int x1), some (.int x2), some (.int (x3 + 1))]) (dx D_m_drawnOf 9 rfl) rfl (by decide) (by decide) rfl ?_
    refine e_goto (tgt := 6) (dx D_m_drawnOf 10 rfl) (by decide) ?_
    exact h
abbrev Cm_flows (x1 : Int32) (x2 : Int32) (g : Sg) (Q : Int32 → Sg → Prop) : Prop := Ci Mm_flows [.ref 34, .int x1, .int x2] g Q
abbrev Hm_flows_2 (x1 : Int32) (x2 : Int32) (x3 : Int32) (g : Sg) (Q : Int32 → Sg → Prop) : Prop := Hi Mm_flows 2 [some (.ref 34), some (.int x1), some (.int x2), some (.int x3), none, none, none, none, none] [] g Q
abbrev Hm_flows_28 (x1 : Int32) (x2 : Int32) (x3 : Int32) (x4 : Int32) (g : Sg) (Q : Int32 → Sg → Prop) : Prop := Hi Mm_flows 28 [some (.ref 34), some (.int x1), some (.int x2), some (.int x3), some (.int x4), none, none, none, none] [] g Q
abbrev Hm_flows_40 (x1 : Int32) (x2 : Int32) (x3 : Int32) (x4 : Int32) (x5 : Int32) (g : Sg) (Q : Int32 → Sg → Prop) : Prop := Hi Mm_flows 40 [some (.ref 34), some (.int x1), some (.int x2), some (.int x3), some (.int x4), some (.int x5), none, none, none] [] g Q
abbrev Hm_flows_83 (x1 : Int32) (x2 : Int32) (x3 : Int32) (x4 : Int32) (x5 : Int32) (x6 : Int32) (g : Sg) (Q : Int32 → Sg → Prop) : Prop := Hi Mm_flows 83 [some (.ref 34), some (.int x1), some (.int x2), some (.int x3), some (.int x4), some (.int x5), some (.int x6), none, none] [] g Q
abbrev Hm_flows_161 (x1 : Int32) (x2 : Int32) (x3 : Int32) (x4 : Int32) (x5 : Int32) (x6 : Int32) (x7 : Int32) (x8 : Int32) (g : Sg) (Q : Int32 → Sg → Prop) : Prop := Hi Mm_flows 161 [some (.ref 34), some (.int x1), some (.int x2), some (.int x3), some (.int x4), some (.int x5), some (.int x6), some (.int x7), some (.int x8)] [] g Q
abbrev Hm_flows_213 (x1 : Int32) (x2 : Int32) (x3 : Int32) (x4 : Int32) (x5 : Int32) (g : Sg) (Q : Int32 → Sg → Prop) : Prop := Hi Mm_flows 213 [some (.ref 34), some (.int x1), some (.int x2), some (.int x3), some (.int x4), some (.int x5), none, none, none] [] g Q
abbrev Hm_flows_235 (x1 : Int32) (x5 : Int32) (g : Sg) (Q : Int32 → Sg → Prop) : Prop := Hi Mm_flows 235 [some (.ref 34), some (.int x1), none, none, none, some (.int x5), none, none, none] [] g Q
set_option maxRecDepth 20000 in
theorem Vm_flows {x1 : Int32} {x2 : Int32} {g : Sg} {Q : Int32 → Sg → Prop} (h : Hm_flows_2 x1 x2 0 g Q) : Cm_flows x1 x2 g Q := by
  refine Cl.of 6 pl_X9 rfl ?_
  refine q_iconst (v := 0) (dx D_m_flows 0 rfl) (by decide) ?_
  refine q_istore_n (L' := [some (.ref 34), some (.int x1), some (.int x2), some (.int 0), none, none, none, none, none]) (dx D_m_flows 1 rfl) (by decide) rfl ?_
  exact h
set_option maxRecDepth 20000 in
theorem Vm_flows_2 {x1 : Int32} {x2 : Int32} {x3 : Int32} {g : Sg} {Q : Int32 → Sg → Prop} (h : ((8 ≤ x3 → Hm_flows_28 x1 x2 (sb x1) 0 g Q) ∧ (¬ 8 ≤ x3 → vp_in x3 8 ∧ Hm_flows_2 x1 x2 (x3 + 1) (sgU g 49 (x3).toNatClampNeg (-1)) Q))) : Hm_flows_2 x1 x2 x3 g Q := by
  refine e_iload_n (dx D_m_flows 2 rfl) rfl ?_
  refine q_bipush (v := 8) (dx D_m_flows 3 rfl) (by decide) ?_
  refine e_icmp_ge (tgt := 21) (dx D_m_flows 4 rfl) (by decide) (fun c => ?_) (fun c => ?_)
  · replace h := h.1 c
    refine q_iconst (v := 1) (dx D_m_flows 12 rfl) (by decide) ?_
    refine e_iload_n (dx D_m_flows 13 rfl) rfl ?_
    refine e_ishl (dx D_m_flows 14 rfl) ?_
    refine q_istore_n (L' := [some (.ref 34), some (.int x1), some (.int x2), some (.int (sb x1)), none, none, none, none, none]) (dx D_m_flows 15 rfl) (by decide) rfl ?_
    refine q_iconst (v := 0) (dx D_m_flows 16 rfl) (by decide) ?_
    refine q_istore (L' := [some (.ref 34), some (.int x1), some (.int x2), some (.int (sb x1)), some (.int 0), none, none, none, none]) (dx D_m_flows 17 rfl) (by decide) rfl ?_
    exact h
  · replace h := h.2 c
    refine e_aload_n (dx D_m_flows 5 rfl) rfl ?_
    refine e_getR (dx D_m_flows 6 rfl) fl_RX9_52 rfl rfl ?_
    refine e_iload_n (dx D_m_flows 7 rfl) rfl ?_
    refine q_iconst (v := (-1)) (dx D_m_flows 8 rfl) (by decide) ?_
    obtain ⟨hb1, h⟩ := h
    refine e_iast (dx D_m_flows 9 rfl) rfl hb1 ?_
    refine q_iinc (d := 1) (L' := [some (.ref 34), some (.int x1), some (.int x2), some (.int (x3 + 1)), none, none, none, none, none]) (dx D_m_flows 10 rfl) rfl (by decide) (by decide) rfl ?_
    refine e_goto (tgt := 2) (dx D_m_flows 11 rfl) (by decide) ?_
    exact h
set_option maxRecDepth 20000 in
theorem Vm_flows_28 {x1 : Int32} {x2 : Int32} {x3 : Int32} {x4 : Int32} {g : Sg} {Q : Int32 → Sg → Prop} (h : ((x3 = x4 → (((tbb x3 x2 = true) → Hm_flows_235 x1 x2 g Q) ∧ (¬ (tbb x3 x2 = true) → Q 0 g))) ∧ (¬ x3 = x4 → Hm_flows_40 x1 x2 x3 x3 0 g Q))) : Hm_flows_28 x1 x2 x3 x4 g Q := by
  refine e_iload_n (dx D_m_flows 18 rfl) rfl ?_
  refine e_iload (dx D_m_flows 19 rfl) rfl ?_
  refine e_icmp_eq (tgt := 222) (dx D_m_flows 20 rfl) (by decide) (fun c => ?_) (fun c => ?_)
  · replace h := h.1 c
    refine e_iload_n (dx D_m_flows 123 rfl) rfl ?_
    refine e_iload_n (dx D_m_flows 124 rfl) rfl ?_
    refine e_callSi (Q1 := fun r g' => bP (tbb x3 x2 = true) = r ∧ g = g') (rest := []) [.int x3, .int x2] (dx D_m_flows 125 rfl) ln_m_flows_149 rfl rfl (Nat.le_of_ble_eq_true rfl) (Im_isIn  ⟨rfl, rfl⟩) (fun r g' hh => ?_)
    obtain ⟨rfl, rfl⟩ := hh
    refine e_if_ne (tgt := 232) (dx D_m_flows 126 rfl) (by decide) (fun c => ?_) (fun c => ?_)
    · replace h := h.1 (bP_n c)
      refine e_iload_n (dx D_m_flows 129 rfl) rfl ?_
      refine q_istore (L' := [some (.ref 34), some (.int x1), some (.int x2), some (.int x3), some (.int x4), some (.int x2), none, none, none]) (dx D_m_flows 130 rfl) (by decide) rfl ?_
      exact Wp.mask [true, true, false, false, false, true, false, false, false] h
    · replace h := h.2 (bP_z c)
      refine q_iconst (v := 0) (dx D_m_flows 127 rfl) (by decide) ?_
      exact e_iret (dx D_m_flows 128 rfl) rfl (by decide) ⟨_, rfl, h⟩
  · replace h := h.2 c
    refine e_iload_n (dx D_m_flows 21 rfl) rfl ?_
    refine q_istore (L' := [some (.ref 34), some (.int x1), some (.int x2), some (.int x3), some (.int x3), none, none, none, none]) (dx D_m_flows 22 rfl) (by decide) rfl ?_
    refine q_iconst (v := 0) (dx D_m_flows 23 rfl) (by decide) ?_
    refine q_istore (L' := [some (.ref 34), some (.int x1), some (.int x2), some (.int x3), some (.int x3), some (.int 0), none, none, none]) (dx D_m_flows 24 rfl) (by decide) rfl ?_
    exact h
set_option maxRecDepth 20000 in
theorem Vm_flows_40 {x1 : Int32} {x2 : Int32} {x3 : Int32} {x4 : Int32} {x5 : Int32} {g : Sg} {Q : Int32 → Sg → Prop} (h : (((g 34 8) ≤ x5 → Hm_flows_28 x1 x2 x3 x4 g Q) ∧ (¬ (g 34 8) ≤ x5 → (((tbb (g 41 0) x5 = true) → Hm_flows_83 x1 x2 x3 x4 x5 0 g Q) ∧ (¬ (tbb (g 41 0) x5 = true) → vp_in x5 16 ∧ Hm_flows_83 x1 x2 x3 x4 x5 ((g 41 1) - (g 44 (x5).toNatClampNeg)) g Q))))) : Hm_flows_40 x1 x2 x3 x4 x5 g Q := by
  refine e_iload (dx D_m_flows 25 rfl) rfl ?_
  refine e_aload_n (dx D_m_flows 26 rfl) rfl ?_
  refine e_getI (dx D_m_flows 27 rfl) fl_RX9_104 rfl rfl ?_
  refine e_icmp_ge (tgt := 219) (dx D_m_flows 28 rfl) (by decide) (fun c => ?_) (fun c => ?_)
  · replace h := h.1 c
    refine e_goto (tgt := 28) (dx D_m_flows 122 rfl) (by decide) ?_
    exact Wp.mask [true, true, true, true, true, false, false, false, false] h
  · replace h := h.2 c
    refine e_aload_n (dx D_m_flows 29 rfl) rfl ?_
    refine e_getR (dx D_m_flows 30 rfl) fl_RX9_28 rfl rfl ?_
    refine q_iconst (v := 0) (dx D_m_flows 31 rfl) (by decide) ?_
    refine e_iald (dx D_m_flows 32 rfl) rfl (by unfold vp_in; decide) ?_
    refine e_iload (dx D_m_flows 33 rfl) rfl ?_
    refine e_callSi (Q1 := fun r g' => bP (tbb (g 41 0) x5 = true) = r ∧ g = g') (rest := []) [.int (g 41 0), .int x5] (dx D_m_flows 34 rfl) ln_m_flows_149 rfl rfl (Nat.le_of_ble_eq_true rfl) (Im_isIn  ⟨rfl, rfl⟩) (fun r g' hh => ?_)
    obtain ⟨rfl, rfl⟩ := hh
    refine e_if_eq (tgt := 67) (dx D_m_flows 35 rfl) (by decide) (fun c => ?_) (fun c => ?_)
    · replace h := h.2 (bP_z c)
      refine e_aload_n (dx D_m_flows 38 rfl) rfl ?_
      refine e_getR (dx D_m_flows 39 rfl) fl_RX9_28 rfl rfl ?_
      refine q_iconst (v := 1) (dx D_m_flows 40 rfl) (by decide) ?_
      refine e_iald (dx D_m_flows 41 rfl) rfl (by unfold vp_in; decide) ?_
      refine e_aload_n (dx D_m_flows 42 rfl) rfl ?_
      refine e_getR (dx D_m_flows 43 rfl) fl_RX9_37 rfl rfl ?_
      refine e_iload (dx D_m_flows 44 rfl) rfl ?_
      obtain ⟨hb1, h⟩ := h
      refine e_iald (dx D_m_flows 45 rfl) rfl hb1 ?_
      refine e_isub (dx D_m_flows 46 rfl) ?_
      refine q_istore (L' := [some (.ref 34), some (.int x1), some (.int x2), some (.int x3), some (.int x4), some (.int x5), some (.int ((g 41 1) - (g 44 (x5).toNatClampNeg))), none, none]) (dx D_m_flows 47 rfl) (by decide) rfl ?_
      exact h
    · replace h := h.1 (bP_n c)
      refine q_iconst (v := 0) (dx D_m_flows 36 rfl) (by decide) ?_
      refine e_goto (tgt := 81) (dx D_m_flows 37 rfl) (by decide) ?_
      refine q_istore (L' := [some (.ref 34), some (.int x1), some (.int x2), some (.int x3), some (.int x4), some (.int x5), some (.int 0), none, none]) (dx D_m_flows 47 rfl) (by decide) rfl ?_
      exact h
set_option maxRecDepth 20000 in
theorem Vm_flows_83 {x1 : Int32} {x2 : Int32} {x3 : Int32} {x4 : Int32} {x5 : Int32} {x6 : Int32} {g : Sg} {Q : Int32 → Sg → Prop} (h : vp_in (4 * x5) 64 ∧ vp_in ((4 * x5) + 1) 64 ∧ ((x6 ≤ 0 → Hm_flows_161 x1 x2 x3 x4 x5 x6 (g 40 (4 * x5).toNatClampNeg) (g 40 ((4 * x5) + 1).toNatClampNeg) g Q) ∧ (¬ x6 ≤ 0 → vp_in x5 16 ∧ ((x6 ≤ (g 48 (x5).toNatClampNeg) → Hm_flows_161 x1 x2 x3 x4 x5 x6 (g 40 (4 * x5).toNatClampNeg) (g 40 ((4 * x5) + 1).toNatClampNeg) g Q) ∧ (¬ x6 ≤ (g 48 (x5).toNatClampNeg) → (((tbb x3 (g 40 (4 * x5).toNatClampNeg) = true) → (((tbb x3 (g 40 ((4 * x5) + 1).toNatClampNeg) = true) → Hm_flows_161 x1 x2 x3 x4 x5 x6 (g 40 (4 * x5).toNatClampNeg) (g 40 ((4 * x5) + 1).toNatClampNeg) g Q) ∧ (¬ (tbb x3 (g 40 ((4 * x5) + 1).toNatClampNeg) = true) → vp_in (g 40 ((4 * x5) + 1).toNatClampNeg) 8 ∧ Hm_flows_213 x1 x2 (x3 ||| (sb (g 40 ((4 * x5) + 1).toNatClampNeg))) x4 x5 (sgU g 49 (g 40 ((4 * x5) + 1).toNatClampNeg).toNatClampNeg x5) Q))) ∧ (¬ (tbb x3 (g 40 (4 * x5).toNatClampNeg) = true) → Hm_flows_161 x1 x2 x3 x4 x5 x6 (g 40 (4 * x5).toNatClampNeg) (g 40 ((4 * x5) + 1).toNatClampNeg) g Q))))))) : Hm_flows_83 x1 x2 x3 x4 x5 x6 g Q := by
  refine e_aload_n (dx D_m_flows 48 rfl) rfl ?_
  refine e_getR (dx D_m_flows 49 rfl) fl_RX9_25 rfl rfl ?_
  refine q_iconst (v := 4) (dx D_m_flows 50 rfl) (by decide) ?_
  refine e_iload (dx D_m_flows 51 rfl) rfl ?_
  refine e_imul (dx D_m_flows 52 rfl) ?_
  obtain ⟨hb1, h⟩ := h
  refine e_iald (dx D_m_flows 53 rfl) rfl hb1 ?_
  refine q_istore (L' := [some (.ref 34), some (.int x1), some (.int x2), some (.int x3), some (.int x4), some (.int x5), some (.int x6), some (.int (g 40 (4 * x5).toNatClampNeg)), none]) (dx D_m_flows 54 rfl) (by decide) rfl ?_
  refine e_aload_n (dx D_m_flows 55 rfl) rfl ?_
  refine e_getR (dx D_m_flows 56 rfl) fl_RX9_25 rfl rfl ?_
  refine q_iconst (v := 4) (dx D_m_flows 57 rfl) (by decide) ?_
  refine e_iload (dx D_m_flows 58 rfl) rfl ?_
  refine e_imul (dx D_m_flows 59 rfl) ?_
  refine q_iconst (v := 1) (dx D_m_flows 60 rfl) (by decide) ?_
  refine e_iadd (dx D_m_flows 61 rfl) ?_
  obtain ⟨hb2, h⟩ := h
  refine e_iald (dx D_m_flows 62 rfl) rfl hb2 ?_
  refine q_istore (L' := [some (.ref 34), some (.int x1), some (.int x2), some (.int x3), some (.int x4), some (.int x5), some (.int x6), some (.int (g 40 (4 * x5).toNatClampNeg)), some (.int (g 40 ((4 * x5) + 1).toNatClampNeg))]) (dx D_m_flows 63 rfl) (by decide) rfl ?_
  refine e_iload (dx D_m_flows 64 rfl) rfl ?_
  refine e_if_le (tgt := 161) (dx D_m_flows 65 rfl) (by decide) (fun c => ?_) (fun c => ?_)
  · replace h := h.1 c
    exact h
  · replace h := h.2 c
    refine e_aload_n (dx D_m_flows 66 rfl) rfl ?_
    refine e_getR (dx D_m_flows 67 rfl) fl_RX9_49 rfl rfl ?_
    refine e_iload (dx D_m_flows 68 rfl) rfl ?_
    obtain ⟨hb3, h⟩ := h
    refine e_iald (dx D_m_flows 69 rfl) rfl hb3 ?_
    refine e_iload (dx D_m_flows 70 rfl) rfl ?_
    refine e_icmp_ge (tgt := 161) (dx D_m_flows 71 rfl) (by decide) (fun c => ?_) (fun c => ?_)
    · replace h := h.1 c
      exact h
    · replace h := h.2 c
      refine e_iload_n (dx D_m_flows 72 rfl) rfl ?_
      refine e_iload (dx D_m_flows 73 rfl) rfl ?_
      refine e_callSi (Q1 := fun r g' => bP (tbb x3 (g 40 (4 * x5).toNatClampNeg) = true) = r ∧ g = g') (rest := []) [.int x3, .int (g 40 (4 * x5).toNatClampNeg)] (dx D_m_flows 74 rfl) ln_m_flows_149 rfl rfl (Nat.le_of_ble_eq_true rfl) (Im_isIn  ⟨rfl, rfl⟩) (fun r g' hh => ?_)
      obtain ⟨rfl, rfl⟩ := hh
      refine e_if_eq (tgt := 161) (dx D_m_flows 75 rfl) (by decide) (fun c => ?_) (fun c => ?_)
      · replace h := h.2 (bP_z c)
        exact h
      · replace h := h.1 (bP_n c)
        refine e_iload_n (dx D_m_flows 76 rfl) rfl ?_
        refine e_iload (dx D_m_flows 77 rfl) rfl ?_
        refine e_callSi (Q1 := fun r g' => bP (tbb x3 (g 40 ((4 * x5) + 1).toNatClampNeg) = true) = r ∧ g = g') (rest := []) [.int x3, .int (g 40 ((4 * x5) + 1).toNatClampNeg)] (dx D_m_flows 78 rfl) ln_m_flows_149 rfl rfl (Nat.le_of_ble_eq_true rfl) (Im_isIn  ⟨rfl, rfl⟩) (fun r g' hh => ?_)
        obtain ⟨rfl, rfl⟩ := hh
        refine e_if_ne (tgt := 161) (dx D_m_flows 79 rfl) (by decide) (fun c => ?_) (fun c => ?_)
        · replace h := h.1 (bP_n c)
          exact h
        · replace h := h.2 (bP_z c)
          refine e_aload_n (dx D_m_flows 80 rfl) rfl ?_
          refine e_getR (dx D_m_flows 81 rfl) fl_RX9_52 rfl rfl ?_
          refine e_iload (dx D_m_flows 82 rfl) rfl ?_
          refine e_iload (dx D_m_flows 83 rfl) rfl ?_
          obtain ⟨hb4, h⟩ := h
          refine e_iast (dx D_m_flows 84 rfl) rfl hb4 ?_
          refine e_iload_n (dx D_m_flows 85 rfl) rfl ?_
          refine q_iconst (v := 1) (dx D_m_flows 86 rfl) (by decide) ?_
          refine e_iload (dx D_m_flows 87 rfl) rfl ?_
          refine e_ishl (dx D_m_flows 88 rfl) ?_
          refine e_ior (dx D_m_flows 89 rfl) ?_
          refine q_istore_n (L' := [some (.ref 34), some (.int x1), some (.int x2), some (.int (x3 ||| (sb (g 40 ((4 * x5) + 1).toNatClampNeg)))), some (.int x4), some (.int x5), some (.int x6), some (.int (g 40 (4 * x5).toNatClampNeg)), some (.int (g 40 ((4 * x5) + 1).toNatClampNeg))]) (dx D_m_flows 90 rfl) (by decide) rfl ?_
          refine e_goto (tgt := 213) (dx D_m_flows 91 rfl) (by decide) ?_
          exact Wp.mask [true, true, true, true, true, true, false, false, false] h
set_option maxRecDepth 20000 in
theorem Vm_flows_161 {x1 : Int32} {x2 : Int32} {x3 : Int32} {x4 : Int32} {x5 : Int32} {x6 : Int32} {x7 : Int32} {x8 : Int32} {g : Sg} {Q : Int32 → Sg → Prop} (h : ((x6 ≤ 0 → Hm_flows_213 x1 x2 x3 x4 x5 g Q) ∧ (¬ x6 ≤ 0 → vp_in x5 16 ∧ ((x6 ≤ (-(g 48 (x5).toNatClampNeg)) → Hm_flows_213 x1 x2 x3 x4 x5 g Q) ∧ (¬ x6 ≤ (-(g 48 (x5).toNatClampNeg)) → (((tbb x3 x8 = true) → (((tbb x3 x7 = true) → Hm_flows_213 x1 x2 x3 x4 x5 g Q) ∧ (¬ (tbb x3 x7 = true) → vp_in x7 8 ∧ Hm_flows_213 x1 x2 (x3 ||| (sb x7)) x4 x5 (sgU g 49 (x7).toNatClampNeg x5) Q))) ∧ (¬ (tbb x3 x8 = true) → Hm_flows_213 x1 x2 x3 x4 x5 g Q))))))) : Hm_flows_161 x1 x2 x3 x4 x5 x6 x7 x8 g Q := by
  refine e_iload (dx D_m_flows 92 rfl) rfl ?_
  refine e_if_le (tgt := 213) (dx D_m_flows 93 rfl) (by decide) (fun c => ?_) (fun c => ?_)
  · replace h := h.1 c
    exact Wp.mask [true, true, true, true, true, true, false, false, false] h
  · replace h := h.2 c
    refine e_aload_n (dx D_m_flows 94 rfl) rfl ?_
    refine e_getR (dx D_m_flows 95 rfl) fl_RX9_49 rfl rfl ?_
    refine e_iload (dx D_m_flows 96 rfl) rfl ?_
    obtain ⟨hb1, h⟩ := h
    refine e_iald (dx D_m_flows 97 rfl) rfl hb1 ?_
    refine e_ineg (dx D_m_flows 98 rfl) ?_
    refine e_iload (dx D_m_flows 99 rfl) rfl ?_
    refine e_icmp_ge (tgt := 213) (dx D_m_flows 100 rfl) (by decide) (fun c => ?_) (fun c => ?_)
    · replace h := h.1 c
      exact Wp.mask [true, true, true, true, true, true, false, false, false] h
    · replace h := h.2 c
      refine e_iload_n (dx D_m_flows 101 rfl) rfl ?_
      refine e_iload (dx D_m_flows 102 rfl) rfl ?_
      refine e_callSi (Q1 := fun r g' => bP (tbb x3 x8 = true) = r ∧ g = g') (rest := []) [.int x3, .int x8] (dx D_m_flows 103 rfl) ln_m_flows_149 rfl rfl (Nat.le_of_ble_eq_true rfl) (Im_isIn  ⟨rfl, rfl⟩) (fun r g' hh => ?_)
      obtain ⟨rfl, rfl⟩ := hh
      refine e_if_eq (tgt := 213) (dx D_m_flows 104 rfl) (by decide) (fun c => ?_) (fun c => ?_)
      · replace h := h.2 (bP_z c)
        exact Wp.mask [true, true, true, true, true, true, false, false, false] h
      · replace h := h.1 (bP_n c)
        refine e_iload_n (dx D_m_flows 105 rfl) rfl ?_
        refine e_iload (dx D_m_flows 106 rfl) rfl ?_
        refine e_callSi (Q1 := fun r g' => bP (tbb x3 x7 = true) = r ∧ g = g') (rest := []) [.int x3, .int x7] (dx D_m_flows 107 rfl) ln_m_flows_149 rfl rfl (Nat.le_of_ble_eq_true rfl) (Im_isIn  ⟨rfl, rfl⟩) (fun r g' hh => ?_)
        obtain ⟨rfl, rfl⟩ := hh
        refine e_if_ne (tgt := 213) (dx D_m_flows 108 rfl) (by decide) (fun c => ?_) (fun c => ?_)
        · replace h := h.1 (bP_n c)
          exact Wp.mask [true, true, true, true, true, true, false, false, false] h
        · replace h := h.2 (bP_z c)
          refine e_aload_n (dx D_m_flows 109 rfl) rfl ?_
          refine e_getR (dx D_m_flows 110 rfl) fl_RX9_52 rfl rfl ?_
          refine e_iload (dx D_m_flows 111 rfl) rfl ?_
          refine e_iload (dx D_m_flows 112 rfl) rfl ?_
          obtain ⟨hb2, h⟩ := h
          refine e_iast (dx D_m_flows 113 rfl) rfl hb2 ?_
          refine e_iload_n (dx D_m_flows 114 rfl) rfl ?_
          refine q_iconst (v := 1) (dx D_m_flows 115 rfl) (by decide) ?_
          refine e_iload (dx D_m_flows 116 rfl) rfl ?_
          refine e_ishl (dx D_m_flows 117 rfl) ?_
          refine e_ior (dx D_m_flows 118 rfl) ?_
          refine q_istore_n (L' := [some (.ref 34), some (.int x1), some (.int x2), some (.int (x3 ||| (sb x7))), some (.int x4), some (.int x5), some (.int x6), some (.int x7), some (.int x8)]) (dx D_m_flows 119 rfl) (by decide) rfl ?_
          exact Wp.mask [true, true, true, true, true, true, false, false, false] h
set_option maxRecDepth 20000 in
theorem Vm_flows_213 {x1 : Int32} {x2 : Int32} {x3 : Int32} {x4 : Int32} {x5 : Int32} {g : Sg} {Q : Int32 → Sg → Prop} (h : Hm_flows_40 x1 x2 x3 x4 (x5 + 1) g Q) : Hm_flows_213 x1 x2 x3 x4 x5 g Q := by
  refine q_iinc (d := 1) (L' := [some (.ref 34), some (.int x1), some (.int x2), some (.int x3), some (.int x4), some (.int (x5 + 1)), none, none, none]) (dx D_m_flows 120 rfl) rfl (by decide) (by decide) rfl ?_
  refine e_goto (tgt := 40) (dx D_m_flows 121 rfl) (by decide) ?_
  exact h
set_option maxRecDepth 20000 in
theorem Vm_flows_235 {x1 : Int32} {x5 : Int32} {g : Sg} {Q : Int32 → Sg → Prop} (h : ((x5 = x1 → Q 1 g) ∧ (¬ x5 = x1 → vp_in x5 8 ∧ vp_in (g 49 (x5).toNatClampNeg) 16 ∧ vp_in ((4 * (g 49 (x5).toNatClampNeg)) + 1) 64 ∧ (((g 40 ((4 * (g 49 (x5).toNatClampNeg)) + 1).toNatClampNeg) = x5 → vp_in (g 49 (x5).toNatClampNeg) 16 ∧ vp_in (4 * (g 49 (x5).toNatClampNeg)) 64 ∧ vp_in (4 * (g 49 (x5).toNatClampNeg) + 1) 64 ∧ Hm_flows_235 x1 (mOth g (g 49 (x5).toNatClampNeg) x5) (sgU g 48 (g 49 (x5).toNatClampNeg).toNatClampNeg ((g 48 (g 49 (x5).toNatClampNeg).toNatClampNeg) + 1)) Q) ∧ (¬ (g 40 ((4 * (g 49 (x5).toNatClampNeg)) + 1).toNatClampNeg) = x5 → vp_in (g 49 (x5).toNatClampNeg) 16 ∧ vp_in (4 * (g 49 (x5).toNatClampNeg)) 64 ∧ vp_in (4 * (g 49 (x5).toNatClampNeg) + 1) 64 ∧ Hm_flows_235 x1 (mOth g (g 49 (x5).toNatClampNeg) x5) (sgU g 48 (g 49 (x5).toNatClampNeg).toNatClampNeg ((g 48 (g 49 (x5).toNatClampNeg).toNatClampNeg) + (-1))) Q))))) : Hm_flows_235 x1 x5 g Q := by
  refine e_iload (dx D_m_flows 131 rfl) rfl ?_
  refine e_iload_n (dx D_m_flows 132 rfl) rfl ?_
  refine e_icmp_eq (tgt := 294) (dx D_m_flows 133 rfl) (by decide) (fun c => ?_) (fun c => ?_)
  · replace h := h.1 c
    refine q_iconst (v := 1) (dx D_m_flows 165 rfl) (by decide) ?_
    exact e_iret (dx D_m_flows 166 rfl) rfl (by decide) ⟨_, rfl, h⟩
  · replace h := h.2 c
    refine e_aload_n (dx D_m_flows 134 rfl) rfl ?_
    refine e_getR (dx D_m_flows 135 rfl) fl_RX9_52 rfl rfl ?_
    refine e_iload (dx D_m_flows 136 rfl) rfl ?_
    obtain ⟨hb1, h⟩ := h
    refine e_iald (dx D_m_flows 137 rfl) rfl hb1 ?_
    refine q_istore (L' := [some (.ref 34), some (.int x1), none, none, none, some (.int x5), some (.int (g 49 (x5).toNatClampNeg)), none, none]) (dx D_m_flows 138 rfl) (by decide) rfl ?_
    refine e_aload_n (dx D_m_flows 139 rfl) rfl ?_
    refine e_getR (dx D_m_flows 140 rfl) fl_RX9_49 rfl rfl ?_
    refine e_iload (dx D_m_flows 141 rfl) rfl ?_
    refine e_dup2 (dx D_m_flows 142 rfl) rfl rfl ?_
    obtain ⟨hb2, h⟩ := h
    refine e_iald (dx D_m_flows 143 rfl) rfl hb2 ?_
    refine e_aload_n (dx D_m_flows 144 rfl) rfl ?_
    refine e_getR (dx D_m_flows 145 rfl) fl_RX9_25 rfl rfl ?_
    refine q_iconst (v := 4) (dx D_m_flows 146 rfl) (by decide) ?_
    refine e_iload (dx D_m_flows 147 rfl) rfl ?_
    refine e_imul (dx D_m_flows 148 rfl) ?_
    refine q_iconst (v := 1) (dx D_m_flows 149 rfl) (by decide) ?_
    refine e_iadd (dx D_m_flows 150 rfl) ?_
    obtain ⟨hb3, h⟩ := h
    refine e_iald (dx D_m_flows 151 rfl) rfl hb3 ?_
    refine e_iload (dx D_m_flows 152 rfl) rfl ?_
    refine e_icmp_ne (tgt := 278) (dx D_m_flows 153 rfl) (by decide) (fun c => ?_) (fun c => ?_)
    · replace h := h.2 c
      refine q_iconst (v := (-1)) (dx D_m_flows 156 rfl) (by decide) ?_
      refine e_iadd (dx D_m_flows 157 rfl) ?_
      obtain ⟨hb4, h⟩ := h
      refine e_iast (dx D_m_flows 158 rfl) rfl hb4 ?_
      refine e_aload_n (dx D_m_flows 159 rfl) rfl ?_
      refine e_iload (dx D_m_flows 160 rfl) rfl ?_
      refine e_iload (dx D_m_flows 161 rfl) rfl ?_
      obtain ⟨hb5, h⟩ := h
      obtain ⟨hb6, h⟩ := h
      refine e_callVi (Q1 := fun r g' => (mOth g (g 49 (x5).toNatClampNeg) x5) = r ∧ (sgU g 48 (g 49 (x5).toNatClampNeg).toNatClampNeg ((g 48 (g 49 (x5).toNatClampNeg).toNatClampNeg) + (-1))) = g') (rest := []) [.int (g 49 (x5).toNatClampNeg), .int x5] (dx D_m_flows 162 rfl) ln_m_flows_159 rfl rfl rfl (Nat.le_of_ble_eq_true rfl) (Im_other hb5 hb6 ⟨rfl, rfl⟩) (fun r g' hh => ?_)
      obtain ⟨rfl, rfl⟩ := hh
      refine q_istore (L' := [some (.ref 34), some (.int x1), none, none, none, some (.int (mOth g (g 49 (x5).toNatClampNeg) x5)), some (.int (g 49 (x5).toNatClampNeg)), none, none]) (dx D_m_flows 163 rfl) (by decide) rfl ?_
      refine e_goto (tgt := 235) (dx D_m_flows 164 rfl) (by decide) ?_
      exact Wp.mask [true, true, false, false, false, true, false, false, false] h
    · replace h := h.1 c
      refine q_iconst (v := 1) (dx D_m_flows 154 rfl) (by decide) ?_
      refine e_goto (tgt := 279) (dx D_m_flows 155 rfl) (by decide) ?_
      refine e_iadd (dx D_m_flows 157 rfl) ?_
      obtain ⟨hb7, h⟩ := h
      refine e_iast (dx D_m_flows 158 rfl) rfl hb7 ?_
      refine e_aload_n (dx D_m_flows 159 rfl) rfl ?_
      refine e_iload (dx D_m_flows 160 rfl) rfl ?_
      refine e_iload (dx D_m_flows 161 rfl) rfl ?_
      obtain ⟨hb8, h⟩ := h
      obtain ⟨hb9, h⟩ := h
      refine e_callVi (Q1 := fun r g' => (mOth g (g 49 (x5).toNatClampNeg) x5) = r ∧ (sgU g 48 (g 49 (x5).toNatClampNeg).toNatClampNeg ((g 48 (g 49 (x5).toNatClampNeg).toNatClampNeg) + 1)) = g') (rest := []) [.int (g 49 (x5).toNatClampNeg), .int x5] (dx D_m_flows 162 rfl) ln_m_flows_159 rfl rfl rfl (Nat.le_of_ble_eq_true rfl) (Im_other hb8 hb9 ⟨rfl, rfl⟩) (fun r g' hh => ?_)
      obtain ⟨rfl, rfl⟩ := hh
      refine q_istore (L' := [some (.ref 34), some (.int x1), none, none, none, some (.int (mOth g (g 49 (x5).toNatClampNeg) x5)), some (.int (g 49 (x5).toNatClampNeg)), none, none]) (dx D_m_flows 163 rfl) (by decide) rfl ?_
      refine e_goto (tgt := 235) (dx D_m_flows 164 rfl) (by decide) ?_
      exact Wp.mask [true, true, false, false, false, true, false, false, false] h
