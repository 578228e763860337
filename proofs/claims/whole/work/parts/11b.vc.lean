abbrev Cm_mostOf (x1 : Int32) (x2 : Int32) (g : Sg) (Q : Int32 → Sg → Prop) : Prop := Ci Mm_mostOf [.ref 34, .int x1, .int x2] g Q
abbrev Hm_mostOf_2 (x1 : Int32) (x2 : Int32) (x3 : Int32) (g : Sg) (Q : Int32 → Sg → Prop) : Prop := Hi Mm_mostOf 2 [some (.ref 34), some (.int x1), some (.int x2), some (.int x3)] [] g Q
abbrev Hm_mostOf_23 (x1 : Int32) (x2 : Int32) (x3 : Int32) (g : Sg) (Q : Int32 → Sg → Prop) : Prop := Hi Mm_mostOf 23 [some (.ref 34), some (.int x1), some (.int x2), some (.int x3)] [] g Q
set_option maxRecDepth 20000 in
theorem Vm_mostOf {x1 : Int32} {x2 : Int32} {g : Sg} {Q : Int32 → Sg → Prop} (h : Hm_mostOf_2 x1 x2 0 g Q) : Cm_mostOf x1 x2 g Q := by
  refine Cl.of 1 pl_X9 rfl ?_
  refine q_iconst (v := 0) (dx D_m_mostOf 0 rfl) (by decide) ?_
  refine q_istore_n (L' := [some (.ref 34), some (.int x1), some (.int x2), some (.int 0)]) (dx D_m_mostOf 1 rfl) (by decide) rfl ?_
  exact h
set_option maxRecDepth 20000 in
theorem Vm_mostOf_2 {x1 : Int32} {x2 : Int32} {x3 : Int32} {g : Sg} {Q : Int32 → Sg → Prop} (h : ((16 ≤ x3 → Hm_mostOf_23 x1 x2 0 g Q) ∧ (¬ 16 ≤ x3 → vp_in x3 16 ∧ Hm_mostOf_2 x1 x2 (x3 + 1) (sgU g 48 (x3).toNatClampNeg 0) Q))) : Hm_mostOf_2 x1 x2 x3 g Q := by
  refine e_iload_n (dx D_m_mostOf 2 rfl) rfl ?_
  refine q_bipush (v := 16) (dx D_m_mostOf 3 rfl) (by decide) ?_
  refine e_icmp_ge (tgt := 21) (dx D_m_mostOf 4 rfl) (by decide) (fun c => ?_) (fun c => ?_)
  · replace h := h.1 c
    refine q_iconst (v := 0) (dx D_m_mostOf 12 rfl) (by decide) ?_
    refine q_istore_n (L' := [some (.ref 34), some (.int x1), some (.int x2), some (.int 0)]) (dx D_m_mostOf 13 rfl) (by decide) rfl ?_
    exact h
  · replace h := h.2 c
    refine e_aload_n (dx D_m_mostOf 5 rfl) rfl ?_
    refine e_getR (dx D_m_mostOf 6 rfl) fl_RX9_49 rfl rfl ?_
    refine e_iload_n (dx D_m_mostOf 7 rfl) rfl ?_
    refine q_iconst (v := 0) (dx D_m_mostOf 8 rfl) (by decide) ?_
    obtain ⟨hb1, h⟩ := h
    refine e_iast (dx D_m_mostOf 9 rfl) rfl hb1 ?_
    refine q_iinc (d := 1) (L' := [some (.ref 34), some (.int x1), some (.int x2), some (.int (x3 + 1))]) (dx D_m_mostOf 10 rfl) rfl (by decide) (by decide) rfl ?_
    refine e_goto (tgt := 2) (dx D_m_mostOf 11 rfl) (by decide) ?_
    exact h
set_option maxRecDepth 20000 in
theorem Vm_mostOf_23 {x1 : Int32} {x2 : Int32} {x3 : Int32} {g : Sg} {Q : Int32 → Sg → Prop} (h : Cm_flows x1 x2 g (fun r2 g1 => ((r2 = 0 → Q x3 g1) ∧ (¬ r2 = 0 → Hm_mostOf_23 x1 x2 (x3 + 1) g1 Q)))) : Hm_mostOf_23 x1 x2 x3 g Q := by
  refine e_aload_n (dx D_m_mostOf 14 rfl) rfl ?_
  refine e_iload_n (dx D_m_mostOf 15 rfl) rfl ?_
  refine e_iload_n (dx D_m_mostOf 16 rfl) rfl ?_
  refine e_callVi (rest := []) [.int x1, .int x2] (dx D_m_mostOf 17 rfl) ln_m_mostOf_213 rfl rfl rfl (Nat.le_of_ble_eq_true rfl) h (fun r2 g1 h => ?_)
  refine e_if_eq (tgt := 38) (dx D_m_mostOf 18 rfl) (by decide) (fun c => ?_) (fun c => ?_)
  · replace h := h.1 c
    refine e_iload_n (dx D_m_mostOf 21 rfl) rfl ?_
    exact e_iret (dx D_m_mostOf 22 rfl) rfl rfl ⟨_, rfl, h⟩
  · replace h := h.2 c
    refine q_iinc (d := 1) (L' := [some (.ref 34), some (.int x1), some (.int x2), some (.int (x3 + 1))]) (dx D_m_mostOf 19 rfl) rfl (by decide) (by decide) rfl ?_
    refine e_goto (tgt := 23) (dx D_m_mostOf 20 rfl) (by decide) ?_
    exact h
abbrev Cm_most (x1 : Int32) (x2 : Int32) (x3 : Int32) (g : Sg) (Q : Int32 → Sg → Prop) : Prop := Ci Mm_most [.ref 34, .int x1, .int x2, .int x3] g Q
set_option maxRecDepth 20000 in
theorem Vm_most {x1 : Int32} {x2 : Int32} {x3 : Int32} {g : Sg} {Q : Int32 → Sg → Prop} (h : Cm_goesAll g (fun g1 => (((twoE x1 x2) → (((0 ≤ x3 ∧ x3 ≤ 1) → ((x3 = 0 → Cm_drawnOf x1 x2 g1 (fun r5 g4 => Q r5 g4)) ∧ (¬ x3 = 0 → Cm_mostOf x1 x2 g1 (fun r3 g2 => Q r3 g2)))) ∧ (¬ (0 ≤ x3 ∧ x3 ≤ 1) → Q (-2) g1))) ∧ (¬ (twoE x1 x2) → Q (-2) g1)))) : Cm_most x1 x2 x3 g Q := by
  refine Cl.of 0 pl_X9 rfl ?_
  refine e_aload_n (dx D_m_most 0 rfl) rfl ?_
  refine e_callVv (rest := []) [] (dx D_m_most 1 rfl) ln_m_most_186 rfl rfl rfl (Nat.le_of_ble_eq_true rfl) h (fun g1 h => ?_)
  refine e_iload_n (dx D_m_most 2 rfl) rfl ?_
  refine e_iload_n (dx D_m_most 3 rfl) rfl ?_
  refine e_callSi (Q1 := fun r g' => bP (twoE x1 x2) = r ∧ g1 = g') (rest := []) [.int x1, .int x2] (dx D_m_most 4 rfl) ln_m_most_136 rfl rfl (Nat.le_of_ble_eq_true rfl) (Im_areEnds  ⟨rfl, rfl⟩) (fun r g' hh => ?_)
  obtain ⟨rfl, rfl⟩ := hh
  refine e_if_eq (tgt := 41) (dx D_m_most 5 rfl) (by decide) (fun c => ?_) (fun c => ?_)
  · replace h := h.2 (bP_z c)
    refine q_bipush (v := (-2)) (dx D_m_most 21 rfl) (by decide) ?_
    exact e_iret (dx D_m_most 22 rfl) rfl rfl ⟨_, rfl, h⟩
  · replace h := h.1 (bP_n c)
    refine e_iload_n (dx D_m_most 6 rfl) rfl ?_
    refine e_callSi (Q1 := fun r g' => bP (0 ≤ x3 ∧ x3 ≤ 1) = r ∧ g1 = g') (rest := []) [.int x3] (dx D_m_most 7 rfl) ln_m_most_192 rfl rfl (Nat.le_of_ble_eq_true rfl) (Im_isTwo  ⟨rfl, rfl⟩) (fun r g' hh => ?_)
    obtain ⟨rfl, rfl⟩ := hh
    refine e_if_eq (tgt := 41) (dx D_m_most 8 rfl) (by decide) (fun c => ?_) (fun c => ?_)
    · replace h := h.2 (bP_z c)
      refine q_bipush (v := (-2)) (dx D_m_most 21 rfl) (by decide) ?_
      exact e_iret (dx D_m_most 22 rfl) rfl rfl ⟨_, rfl, h⟩
    · replace h := h.1 (bP_n c)
      refine e_iload_n (dx D_m_most 9 rfl) rfl ?_
      refine e_if_ne (tgt := 32) (dx D_m_most 10 rfl) (by decide) (fun c => ?_) (fun c => ?_)
      · replace h := h.2 c
        refine e_aload_n (dx D_m_most 16 rfl) rfl ?_
        refine e_iload_n (dx D_m_most 17 rfl) rfl ?_
        refine e_iload_n (dx D_m_most 18 rfl) rfl ?_
        refine e_callVi (rest := []) [.int x1, .int x2] (dx D_m_most 19 rfl) ln_m_most_219 rfl rfl rfl (Nat.le_of_ble_eq_true rfl) h (fun r3 g2 h => ?_)
        refine e_goto (tgt := 43) (dx D_m_most 20 rfl) (by decide) ?_
        exact e_iret (dx D_m_most 22 rfl) rfl rfl ⟨_, rfl, h⟩
      · replace h := h.1 c
        refine e_aload_n (dx D_m_most 11 rfl) rfl ?_
        refine e_iload_n (dx D_m_most 12 rfl) rfl ?_
        refine e_iload_n (dx D_m_most 13 rfl) rfl ?_
        refine e_callVi (rest := []) [.int x1, .int x2] (dx D_m_most 14 rfl) ln_m_most_216 rfl rfl rfl (Nat.le_of_ble_eq_true rfl) h (fun r5 g4 h => ?_)
        refine e_goto (tgt := 43) (dx D_m_most 15 rfl) (by decide) ?_
        exact e_iret (dx D_m_most 22 rfl) rfl rfl ⟨_, rfl, h⟩
abbrev Cm_failsOf (x1 : Int32) (g : Sg) (Q : Int32 → Sg → Prop) : Prop := Ci Mm_failsOf [.ref 34, .int x1] g Q
abbrev Hm_failsOf_4 (x1 : Int32) (x2 : Int32) (x3 : Int32) (g : Sg) (Q : Int32 → Sg → Prop) : Prop := Hi Mm_failsOf 4 [some (.ref 34), some (.int x1), some (.int x2), some (.int x3)] [] g Q
set_option maxRecDepth 20000 in
theorem Vm_failsOf {x1 : Int32} {g : Sg} {Q : Int32 → Sg → Prop} (h : Hm_failsOf_4 x1 0 0 g Q) : Cm_failsOf x1 g Q := by
  refine Cl.of 2 pl_X9 rfl ?_
  refine q_iconst (v := 0) (dx D_m_failsOf 0 rfl) (by decide) ?_
  refine q_istore_n (L' := [some (.ref 34), some (.int x1), some (.int 0), none]) (dx D_m_failsOf 1 rfl) (by decide) rfl ?_
  refine q_iconst (v := 0) (dx D_m_failsOf 2 rfl) (by decide) ?_
  refine q_istore_n (L' := [some (.ref 34), some (.int x1), some (.int 0), some (.int 0)]) (dx D_m_failsOf 3 rfl) (by decide) rfl ?_
  exact h
set_option maxRecDepth 20000 in
theorem Vm_failsOf_4 {x1 : Int32} {x2 : Int32} {x3 : Int32} {g : Sg} {Q : Int32 → Sg → Prop} (h : (((g 34 8) ≤ x3 → ((x2 = 0 → Q (-1) g) ∧ (¬ x2 = 0 → ¬ x2 = 0 ∧ Q ((((g 41 2) + x2) - 1) / x2) g))) ∧ (¬ (g 34 8) ≤ x3 → vp_in x1 16 ∧ (((tbb (if tbb (g 34 15) x1 = true then g 43 (x1).toNatClampNeg else 0) x3 = true) → vp_in ((4 * x3) + 3) 64 ∧ Hm_failsOf_4 x1 (x2 + (g 40 ((4 * x3) + 3).toNatClampNeg)) (x3 + 1) g Q) ∧ (¬ (tbb (if tbb (g 34 15) x1 = true then g 43 (x1).toNatClampNeg else 0) x3 = true) → Hm_failsOf_4 x1 (x2 + 0) (x3 + 1) g Q))))) : Hm_failsOf_4 x1 x2 x3 g Q := by
  refine e_iload_n (dx D_m_failsOf 4 rfl) rfl ?_
  refine e_aload_n (dx D_m_failsOf 5 rfl) rfl ?_
  refine e_getI (dx D_m_failsOf 6 rfl) fl_RX9_104 rfl rfl ?_
  refine e_icmp_ge (tgt := 47) (dx D_m_failsOf 7 rfl) (by decide) (fun c => ?_) (fun c => ?_)
  · replace h := h.1 c
    refine e_iload_n (dx D_m_failsOf 29 rfl) rfl ?_
    refine e_if_ne (tgt := 55) (dx D_m_failsOf 30 rfl) (by decide) (fun c => ?_) (fun c => ?_)
    · replace h := h.2 c
      refine e_aload_n (dx D_m_failsOf 33 rfl) rfl ?_
      refine e_getR (dx D_m_failsOf 34 rfl) fl_RX9_28 rfl rfl ?_
      refine q_iconst (v := 2) (dx D_m_failsOf 35 rfl) (by decide) ?_
      refine e_iald (dx D_m_failsOf 36 rfl) rfl (by unfold vp_in; decide) ?_
      refine e_iload_n (dx D_m_failsOf 37 rfl) rfl ?_
      refine e_iadd (dx D_m_failsOf 38 rfl) ?_
      refine q_iconst (v := 1) (dx D_m_failsOf 39 rfl) (by decide) ?_
      refine e_isub (dx D_m_failsOf 40 rfl) ?_
      refine e_iload_n (dx D_m_failsOf 41 rfl) rfl ?_
      obtain ⟨hb1, h⟩ := h
      refine e_idiv (dx D_m_failsOf 42 rfl) hb1 ?_
      exact e_iret (dx D_m_failsOf 43 rfl) rfl rfl ⟨_, rfl, h⟩
    · replace h := h.1 c
      refine q_iconst (v := (-1)) (dx D_m_failsOf 31 rfl) (by decide) ?_
      refine e_goto (tgt := 67) (dx D_m_failsOf 32 rfl) (by decide) ?_
      exact e_iret (dx D_m_failsOf 43 rfl) rfl rfl ⟨_, rfl, h⟩
  · replace h := h.2 c
    refine e_iload_n (dx D_m_failsOf 8 rfl) rfl ?_
    refine e_aload_n (dx D_m_failsOf 9 rfl) rfl ?_
    refine e_iload_n (dx D_m_failsOf 10 rfl) rfl ?_
    obtain ⟨hb2, h⟩ := h
    refine e_callVi (Q1 := fun r g' => (if tbb (g 34 15) x1 = true then g 43 (x1).toNatClampNeg else 0) = r ∧ g = g') (rest := [.int x2]) [.int x1] (dx D_m_failsOf 11 rfl) ln_m_failsOf_198 rfl rfl rfl (Nat.le_of_ble_eq_true rfl) (Im_pipesOf hb2 ⟨rfl, rfl⟩) (fun r g' hh => ?_)
    obtain ⟨rfl, rfl⟩ := hh
    refine e_iload_n (dx D_m_failsOf 12 rfl) rfl ?_
    refine e_callSi (Q1 := fun r g' => bP (tbb (if tbb (g 34 15) x1 = true then g 43 (x1).toNatClampNeg else 0) x3 = true) = r ∧ g = g') (rest := [.int x2]) [.int (if tbb (g 34 15) x1 = true then g 43 (x1).toNatClampNeg else 0), .int x3] (dx D_m_failsOf 13 rfl) ln_m_failsOf_149 rfl rfl (Nat.le_of_ble_eq_true rfl) (Im_isIn  ⟨rfl, rfl⟩) (fun r g' hh => ?_)
    obtain ⟨rfl, rfl⟩ := hh
    refine e_if_eq (tgt := 38) (dx D_m_failsOf 14 rfl) (by decide) (fun c => ?_) (fun c => ?_)
    · replace h := h.2 (bP_z c)
      refine q_iconst (v := 0) (dx D_m_failsOf 24 rfl) (by decide) ?_
      refine e_iadd (dx D_m_failsOf 25 rfl) ?_
      refine q_istore_n (L' := [some (.ref 34), some (.int x1), some (.int (x2 + 0)), some (.int x3)]) (dx D_m_failsOf 26 rfl) (by decide) rfl ?_
      refine q_iinc (d := 1) (L' := [some (.ref 34), some (.int x1), some (.int (x2 + 0)), some (.int (x3 + 1))]) (dx D_m_failsOf 27 rfl) rfl (by decide) (by decide) rfl ?_
      refine e_goto (tgt := 4) (dx D_m_failsOf 28 rfl) (by decide) ?_
      exact h
    · replace h := h.1 (bP_n c)
      refine e_aload_n (dx D_m_failsOf 15 rfl) rfl ?_
      refine e_getR (dx D_m_failsOf 16 rfl) fl_RX9_25 rfl rfl ?_
      refine q_iconst (v := 4) (dx D_m_failsOf 17 rfl) (by decide) ?_
      refine e_iload_n (dx D_m_failsOf 18 rfl) rfl ?_
      refine e_imul (dx D_m_failsOf 19 rfl) ?_
      refine q_iconst (v := 3) (dx D_m_failsOf 20 rfl) (by decide) ?_
      refine e_iadd (dx D_m_failsOf 21 rfl) ?_
      obtain ⟨hb3, h⟩ := h
      refine e_iald (dx D_m_failsOf 22 rfl) rfl hb3 ?_
      refine e_goto (tgt := 39) (dx D_m_failsOf 23 rfl) (by decide) ?_
      refine e_iadd (dx D_m_failsOf 25 rfl) ?_
      refine q_istore_n (L' := [some (.ref 34), some (.int x1), some (.int (x2 + (g 40 ((4 * x3) + 3).toNatClampNeg))), some (.int x3)]) (dx D_m_failsOf 26 rfl) (by decide) rfl ?_
      refine q_iinc (d := 1) (L' := [some (.ref 34), some (.int x1), some (.int (x2 + (g 40 ((4 * x3) + 3).toNatClampNeg))), some (.int (x3 + 1))]) (dx D_m_failsOf 27 rfl) rfl (by decide) (by decide) rfl ?_
      refine e_goto (tgt := 4) (dx D_m_failsOf 28 rfl) (by decide) ?_
      exact h
abbrev Cm_fails (x1 : Int32) (g : Sg) (Q : Int32 → Sg → Prop) : Prop := Ci Mm_fails [.ref 34, .int x1] g Q
set_option maxRecDepth 20000 in
theorem Vm_fails {x1 : Int32} {g : Sg} {Q : Int32 → Sg → Prop} (h : Cm_goesAll g (fun g1 => (((isW x1) → Cm_failsOf x1 g1 (fun r3 g2 => Q r3 g2)) ∧ (¬ (isW x1) → Q (-2) g1)))) : Cm_fails x1 g Q := by
  refine Cl.of 0 pl_X9 rfl ?_
  refine e_aload_n (dx D_m_fails 0 rfl) rfl ?_
  refine e_callVv (rest := []) [] (dx D_m_fails 1 rfl) ln_m_fails_186 rfl rfl rfl (Nat.le_of_ble_eq_true rfl) h (fun g1 h => ?_)
  refine e_iload_n (dx D_m_fails 2 rfl) rfl ?_
  refine e_callSi (Q1 := fun r g' => bP (isW x1) = r ∧ g1 = g') (rest := []) [.int x1] (dx D_m_fails 3 rfl) ln_m_fails_143 rfl rfl (Nat.le_of_ble_eq_true rfl) (Im_isWire  ⟨rfl, rfl⟩) (fun r g' hh => ?_)
  obtain ⟨rfl, rfl⟩ := hh
  refine e_if_eq (tgt := 19) (dx D_m_fails 4 rfl) (by decide) (fun c => ?_) (fun c => ?_)
  · replace h := h.2 (bP_z c)
    refine q_bipush (v := (-2)) (dx D_m_fails 9 rfl) (by decide) ?_
    exact e_iret (dx D_m_fails 10 rfl) rfl rfl ⟨_, rfl, h⟩
  · replace h := h.1 (bP_n c)
    refine e_aload_n (dx D_m_fails 5 rfl) rfl ?_
    refine e_iload_n (dx D_m_fails 6 rfl) rfl ?_
    refine e_callVi (rest := []) [.int x1] (dx D_m_fails 7 rfl) ln_m_fails_222 rfl rfl rfl (Nat.le_of_ble_eq_true rfl) h (fun r3 g2 h => ?_)
    refine e_goto (tgt := 21) (dx D_m_fails 8 rfl) (by decide) ?_
    exact e_iret (dx D_m_fails 10 rfl) rfl rfl ⟨_, rfl, h⟩
abbrev Cm_soonestNow (g : Sg) (Q : Int32 → Sg → Prop) : Prop := Ci Mm_soonestNow [.ref 34] g Q
abbrev Hm_soonestNow_4 (x1 : Int32) (x2 : Int32) (g : Sg) (Q : Int32 → Sg → Prop) : Prop := Hi Mm_soonestNow 4 [some (.ref 34), some (.int x1), some (.int x2), none] [] g Q
set_option maxRecDepth 20000 in
theorem Vm_soonestNow {g : Sg} {Q : Int32 → Sg → Prop} (h : Hm_soonestNow_4 (-1) 0 g Q) : Cm_soonestNow g Q := by
  refine Cl.of 3 pl_X9 rfl ?_
  refine q_iconst (v := (-1)) (dx D_m_soonestNow 0 rfl) (by decide) ?_
  refine q_istore_n (L' := [some (.ref 34), some (.int (-1)), none, none]) (dx D_m_soonestNow 1 rfl) (by decide) rfl ?_
  refine q_iconst (v := 0) (dx D_m_soonestNow 2 rfl) (by decide) ?_
  refine q_istore_n (L' := [some (.ref 34), some (.int (-1)), some (.int 0), none]) (dx D_m_soonestNow 3 rfl) (by decide) rfl ?_
  exact h
set_option maxRecDepth 20000 in
theorem Vm_soonestNow_4 {x1 : Int32} {x2 : Int32} {g : Sg} {Q : Int32 → Sg → Prop} (h : ((16 ≤ x2 → Q x1 g) ∧ (¬ 16 ≤ x2 → Cm_failsOf x2 g (fun r2 g1 => ((r2 = (-1) → Hm_soonestNow_4 x1 (x2 + 1) g1 Q) ∧ (¬ r2 = (-1) → ((x1 = (-1) → Hm_soonestNow_4 x2 (x2 + 1) g1 Q) ∧ (¬ x1 = (-1) → Cm_failsOf x1 g1 (fun r4 g3 => ((r4 ≤ r2 → Hm_soonestNow_4 x1 (x2 + 1) g3 Q) ∧ (¬ r4 ≤ r2 → Hm_soonestNow_4 x2 (x2 + 1) g3 Q))))))))))) : Hm_soonestNow_4 x1 x2 g Q := by
  refine e_iload_n (dx D_m_soonestNow 4 rfl) rfl ?_
  refine q_bipush (v := 16) (dx D_m_soonestNow 5 rfl) (by decide) ?_
  refine e_icmp_ge (tgt := 47) (dx D_m_soonestNow 6 rfl) (by decide) (fun c => ?_) (fun c => ?_)
  · replace h := h.1 c
    refine e_iload_n (dx D_m_soonestNow 28 rfl) rfl ?_
    exact e_iret (dx D_m_soonestNow 29 rfl) rfl rfl ⟨_, rfl, h⟩
  · replace h := h.2 c
    refine e_aload_n (dx D_m_soonestNow 7 rfl) rfl ?_
    refine e_iload_n (dx D_m_soonestNow 8 rfl) rfl ?_
    refine e_callVi (rest := []) [.int x2] (dx D_m_soonestNow 9 rfl) ln_m_soonestNow_222 rfl rfl rfl (Nat.le_of_ble_eq_true rfl) h (fun r2 g1 h => ?_)
    refine q_istore_n (L' := [some (.ref 34), some (.int x1), some (.int x2), some (.int r2)]) (dx D_m_soonestNow 10 rfl) (by decide) rfl ?_
    refine e_iload_n (dx D_m_soonestNow 11 rfl) rfl ?_
    refine q_iconst (v := (-1)) (dx D_m_soonestNow 12 rfl) (by decide) ?_
    refine e_icmp_eq (tgt := 39) (dx D_m_soonestNow 13 rfl) (by decide) (fun c => ?_) (fun c => ?_)
    · replace h := h.1 c
      refine e_iload_n (dx D_m_soonestNow 24 rfl) rfl ?_
      refine q_istore_n (L' := [some (.ref 34), some (.int x1), some (.int x2), some (.int r2)]) (dx D_m_soonestNow 25 rfl) (by decide) rfl ?_
      refine q_iinc (d := 1) (L' := [some (.ref 34), some (.int x1), some (.int (x2 + 1)), some (.int r2)]) (dx D_m_soonestNow 26 rfl) rfl (by decide) (by decide) rfl ?_
      refine e_goto (tgt := 4) (dx D_m_soonestNow 27 rfl) (by decide) ?_
      exact Wp.mask [true, true, true, false] h
    · replace h := h.2 c
      refine e_iload_n (dx D_m_soonestNow 14 rfl) rfl ?_
      refine q_iconst (v := (-1)) (dx D_m_soonestNow 15 rfl) (by decide) ?_
      refine e_icmp_eq (tgt := 35) (dx D_m_soonestNow 16 rfl) (by decide) (fun c => ?_) (fun c => ?_)
      · replace h := h.1 c
        refine e_iload_n (dx D_m_soonestNow 22 rfl) rfl ?_
        refine e_goto (tgt := 40) (dx D_m_soonestNow 23 rfl) (by decide) ?_
        refine q_istore_n (L' := [some (.ref 34), some (.int x2), some (.int x2), some (.int r2)]) (dx D_m_soonestNow 25 rfl) (by decide) rfl ?_
        refine q_iinc (d := 1) (L' := [some (.ref 34), some (.int x2), some (.int (x2 + 1)), some (.int r2)]) (dx D_m_soonestNow 26 rfl) rfl (by decide) (by decide) rfl ?_
        refine e_goto (tgt := 4) (dx D_m_soonestNow 27 rfl) (by decide) ?_
        exact Wp.mask [true, true, true, false] h
      · replace h := h.2 c
        refine e_iload_n (dx D_m_soonestNow 17 rfl) rfl ?_
        refine e_aload_n (dx D_m_soonestNow 18 rfl) rfl ?_
        refine e_iload_n (dx D_m_soonestNow 19 rfl) rfl ?_
        refine e_callVi (rest := [.int r2]) [.int x1] (dx D_m_soonestNow 20 rfl) ln_m_soonestNow_222 rfl rfl rfl (Nat.le_of_ble_eq_true rfl) h (fun r4 g3 h => ?_)
        refine e_icmp_ge (tgt := 39) (dx D_m_soonestNow 21 rfl) (by decide) (fun c => ?_) (fun c => ?_)
        · replace h := h.1 c
          refine e_iload_n (dx D_m_soonestNow 24 rfl) rfl ?_
          refine q_istore_n (L' := [some (.ref 34), some (.int x1), some (.int x2), some (.int r2)]) (dx D_m_soonestNow 25 rfl) (by decide) rfl ?_
          refine q_iinc (d := 1) (L' := [some (.ref 34), some (.int x1), some (.int (x2 + 1)), some (.int r2)]) (dx D_m_soonestNow 26 rfl) rfl (by decide) (by decide) rfl ?_
          refine e_goto (tgt := 4) (dx D_m_soonestNow 27 rfl) (by decide) ?_
          exact Wp.mask [true, true, true, false] h
        · replace h := h.2 c
          refine e_iload_n (dx D_m_soonestNow 22 rfl) rfl ?_
          refine e_goto (tgt := 40) (dx D_m_soonestNow 23 rfl) (by decide) ?_
          refine q_istore_n (L' := [some (.ref 34), some (.int x2), some (.int x2), some (.int r2)]) (dx D_m_soonestNow 25 rfl) (by decide) rfl ?_
          refine q_iinc (d := 1) (L' := [some (.ref 34), some (.int x2), some (.int (x2 + 1)), some (.int r2)]) (dx D_m_soonestNow 26 rfl) rfl (by decide) (by decide) rfl ?_
          refine e_goto (tgt := 4) (dx D_m_soonestNow 27 rfl) (by decide) ?_
          exact Wp.mask [true, true, true, false] h
abbrev Cm_soonest (g : Sg) (Q : Int32 → Sg → Prop) : Prop := Ci Mm_soonest [.ref 34] g Q
set_option maxRecDepth 20000 in
theorem Vm_soonest {g : Sg} {Q : Int32 → Sg → Prop} (h : Cm_goesAll g (fun g1 => Cm_soonestNow g1 (fun r3 g2 => Q r3 g2))) : Cm_soonest g Q := by
  refine Cl.of 0 pl_X9 rfl ?_
  refine e_aload_n (dx D_m_soonest 0 rfl) rfl ?_
  refine e_callVv (rest := []) [] (dx D_m_soonest 1 rfl) ln_m_soonest_186 rfl rfl rfl (Nat.le_of_ble_eq_true rfl) h (fun g1 h => ?_)
  refine e_aload_n (dx D_m_soonest 2 rfl) rfl ?_
  refine e_callVi (rest := []) [] (dx D_m_soonest 3 rfl) ln_m_soonest_225 rfl rfl rfl (Nat.le_of_ble_eq_true rfl) h (fun r3 g2 h => ?_)
  exact e_iret (dx D_m_soonest 4 rfl) rfl rfl ⟨_, rfl, h⟩
abbrev Cm_leftOn (x1 : Int32) (g : Sg) (Q : Int32 → Sg → Prop) : Prop := Ci Mm_leftOn [.ref 34, .int x1] g Q
abbrev Hm_leftOn_4 (x1 : Int32) (x2 : Int32) (x3 : Int32) (g : Sg) (Q : Int32 → Sg → Prop) : Prop := Hi Mm_leftOn 4 [some (.ref 34), some (.int x1), some (.int x2), some (.int x3), none] [] g Q
set_option maxRecDepth 20000 in
theorem Vm_leftOn {x1 : Int32} {g : Sg} {Q : Int32 → Sg → Prop} (h : Hm_leftOn_4 x1 0 0 g Q) : Cm_leftOn x1 g Q := by
  refine Cl.of 3 pl_X9 rfl ?_
  refine q_iconst (v := 0) (dx D_m_leftOn 0 rfl) (by decide) ?_
  refine q_istore_n (L' := [some (.ref 34), some (.int x1), some (.int 0), none, none]) (dx D_m_leftOn 1 rfl) (by decide) rfl ?_
  refine q_iconst (v := 0) (dx D_m_leftOn 2 rfl) (by decide) ?_
  refine q_istore_n (L' := [some (.ref 34), some (.int x1), some (.int 0), some (.int 0), none]) (dx D_m_leftOn 3 rfl) (by decide) rfl ?_
  exact h
set_option maxRecDepth 20000 in
theorem Vm_leftOn_4 {x1 : Int32} {x2 : Int32} {x3 : Int32} {g : Sg} {Q : Int32 → Sg → Prop} (h : ((16 ≤ x3 → Q x2 g) ∧ (¬ 16 ≤ x3 → Cm_failsOf x3 g (fun r2 g1 => (((tbb (g1 34 15) x3 = true) → ((r2 = (-1) → Hm_leftOn_4 x1 (x2 ||| (sb x3)) (x3 + 1) g1 Q) ∧ (¬ r2 = (-1) → ((r2 ≤ x1 → Hm_leftOn_4 x1 (x2 ||| 0) (x3 + 1) g1 Q) ∧ (¬ r2 ≤ x1 → Hm_leftOn_4 x1 (x2 ||| (sb x3)) (x3 + 1) g1 Q))))) ∧ (¬ (tbb (g1 34 15) x3 = true) → Hm_leftOn_4 x1 (x2 ||| 0) (x3 + 1) g1 Q)))))) : Hm_leftOn_4 x1 x2 x3 g Q := by
  refine e_iload_n (dx D_m_leftOn 4 rfl) rfl ?_
  refine q_bipush (v := 16) (dx D_m_leftOn 5 rfl) (by decide) ?_
  refine e_icmp_ge (tgt := 56) (dx D_m_leftOn 6 rfl) (by decide) (fun c => ?_) (fun c => ?_)
  · replace h := h.1 c
    refine e_iload_n (dx D_m_leftOn 32 rfl) rfl ?_
    exact e_iret (dx D_m_leftOn 33 rfl) rfl rfl ⟨_, rfl, h⟩
  · replace h := h.2 c
    refine e_aload_n (dx D_m_leftOn 7 rfl) rfl ?_
    refine e_iload_n (dx D_m_leftOn 8 rfl) rfl ?_
    refine e_callVi (rest := []) [.int x3] (dx D_m_leftOn 9 rfl) ln_m_leftOn_222 rfl rfl rfl (Nat.le_of_ble_eq_true rfl) h (fun r2 g1 h => ?_)
    refine q_istore (L' := [some (.ref 34), some (.int x1), some (.int x2), some (.int x3), some (.int r2)]) (dx D_m_leftOn 10 rfl) (by decide) rfl ?_
    refine e_iload_n (dx D_m_leftOn 11 rfl) rfl ?_
    refine e_aload_n (dx D_m_leftOn 12 rfl) rfl ?_
    refine e_getI (dx D_m_leftOn 13 rfl) fl_RX9_165 rfl rfl ?_
    refine e_iload_n (dx D_m_leftOn 14 rfl) rfl ?_
    refine e_callSi (Q1 := fun r g' => bP (tbb (g1 34 15) x3 = true) = r ∧ g1 = g') (rest := [.int x2]) [.int (g1 34 15), .int x3] (dx D_m_leftOn 15 rfl) ln_m_leftOn_149 rfl rfl (Nat.le_of_ble_eq_true rfl) (Im_isIn  ⟨rfl, rfl⟩) (fun r g' hh => ?_)
    obtain ⟨rfl, rfl⟩ := hh
    refine e_if_eq (tgt := 47) (dx D_m_leftOn 16 rfl) (by decide) (fun c => ?_) (fun c => ?_)
    · replace h := h.2 (bP_z c)
      refine q_iconst (v := 0) (dx D_m_leftOn 27 rfl) (by decide) ?_
      refine e_ior (dx D_m_leftOn 28 rfl) ?_
      refine q_istore_n (L' := [some (.ref 34), some (.int x1), some (.int (x2 ||| 0)), some (.int x3), some (.int r2)]) (dx D_m_leftOn 29 rfl) (by decide) rfl ?_
      refine q_iinc (d := 1) (L' := [some (.ref 34), some (.int x1), some (.int (x2 ||| 0)), some (.int (x3 + 1)), some (.int r2)]) (dx D_m_leftOn 30 rfl) rfl (by decide) (by decide) rfl ?_
      refine e_goto (tgt := 4) (dx D_m_leftOn 31 rfl) (by decide) ?_
      exact Wp.mask [true, true, true, true, false] h
    · replace h := h.1 (bP_n c)
      refine e_iload (dx D_m_leftOn 17 rfl) rfl ?_
      refine q_iconst (v := (-1)) (dx D_m_leftOn 18 rfl) (by decide) ?_
      refine e_icmp_eq (tgt := 41) (dx D_m_leftOn 19 rfl) (by decide) (fun c => ?_) (fun c => ?_)
      · replace h := h.1 c
        refine q_iconst (v := 1) (dx D_m_leftOn 23 rfl) (by decide) ?_
        refine e_iload_n (dx D_m_leftOn 24 rfl) rfl ?_
        refine e_ishl (dx D_m_leftOn 25 rfl) ?_
        refine e_goto (tgt := 48) (dx D_m_leftOn 26 rfl) (by decide) ?_
        refine e_ior (dx D_m_leftOn 28 rfl) ?_
        refine q_istore_n (L' := [some (.ref 34), some (.int x1), some (.int (x2 ||| (sb x3))), some (.int x3), some (.int r2)]) (dx D_m_leftOn 29 rfl) (by decide) rfl ?_
        refine q_iinc (d := 1) (L' := [some (.ref 34), some (.int x1), some (.int (x2 ||| (sb x3))), some (.int (x3 + 1)), some (.int r2)]) (dx D_m_leftOn 30 rfl) rfl (by decide) (by decide) rfl ?_
        refine e_goto (tgt := 4) (dx D_m_leftOn 31 rfl) (by decide) ?_
        exact Wp.mask [true, true, true, true, false] h
      · replace h := h.2 c
        refine e_iload (dx D_m_leftOn 20 rfl) rfl ?_
        refine e_iload_n (dx D_m_leftOn 21 rfl) rfl ?_
        refine e_icmp_le (tgt := 47) (dx D_m_leftOn 22 rfl) (by decide) (fun c => ?_) (fun c => ?_)
        · replace h := h.1 c
          refine q_iconst (v := 0) (dx D_m_leftOn 27 rfl) (by decide) ?_
          refine e_ior (dx D_m_leftOn 28 rfl) ?_
          refine q_istore_n (L' := [some (.ref 34), some (.int x1), some (.int (x2 ||| 0)), some (.int x3), some (.int r2)]) (dx D_m_leftOn 29 rfl) (by decide) rfl ?_
          refine q_iinc (d := 1) (L' := [some (.ref 34), some (.int x1), some (.int (x2 ||| 0)), some (.int (x3 + 1)), some (.int r2)]) (dx D_m_leftOn 30 rfl) rfl (by decide) (by decide) rfl ?_
          refine e_goto (tgt := 4) (dx D_m_leftOn 31 rfl) (by decide) ?_
          exact Wp.mask [true, true, true, true, false] h
        · replace h := h.2 c
          refine q_iconst (v := 1) (dx D_m_leftOn 23 rfl) (by decide) ?_
          refine e_iload_n (dx D_m_leftOn 24 rfl) rfl ?_
          refine e_ishl (dx D_m_leftOn 25 rfl) ?_
          refine e_goto (tgt := 48) (dx D_m_leftOn 26 rfl) (by decide) ?_
          refine e_ior (dx D_m_leftOn 28 rfl) ?_
          refine q_istore_n (L' := [some (.ref 34), some (.int x1), some (.int (x2 ||| (sb x3))), some (.int x3), some (.int r2)]) (dx D_m_leftOn 29 rfl) (by decide) rfl ?_
          refine q_iinc (d := 1) (L' := [some (.ref 34), some (.int x1), some (.int (x2 ||| (sb x3))), some (.int (x3 + 1)), some (.int r2)]) (dx D_m_leftOn 30 rfl) rfl (by decide) (by decide) rfl ?_
          refine e_goto (tgt := 4) (dx D_m_leftOn 31 rfl) (by decide) ?_
          exact Wp.mask [true, true, true, true, false] h
abbrev Cm_left (x1 : Int32) (g : Sg) (Q : Int32 → Sg → Prop) : Prop := Ci Mm_left [.ref 34, .int x1] g Q
set_option maxRecDepth 20000 in
theorem Vm_left {x1 : Int32} {g : Sg} {Q : Int32 → Sg → Prop} (h : Cm_goesAll g (fun g1 => (((0 ≤ x1 ∧ x1 ≤ 999) → Cm_leftOn x1 g1 (fun r3 g2 => Q r3 g2)) ∧ (¬ (0 ≤ x1 ∧ x1 ≤ 999) → Q (-2) g1)))) : Cm_left x1 g Q := by
  refine Cl.of 0 pl_X9 rfl ?_
  refine e_aload_n (dx D_m_left 0 rfl) rfl ?_
  refine e_callVv (rest := []) [] (dx D_m_left 1 rfl) ln_m_left_186 rfl rfl rfl (Nat.le_of_ble_eq_true rfl) h (fun g1 h => ?_)
  refine e_iload_n (dx D_m_left 2 rfl) rfl ?_
  refine e_i2l (dx D_m_left 3 rfl) ?_
  refine q_lconst (v := 0) (dx D_m_left 4 rfl) (by decide) ?_
  refine e_ldc2 (v := 999) (dx D_m_left 5 rfl) k1118 ?_
  refine e_callSi (Q1 := fun r g' => bP (0 ≤ x1 ∧ x1 ≤ 999) = r ∧ g1 = g') (rest := []) [.long (Int32.toInt64 x1), .long 0, .long 999] (dx D_m_left 6 rfl) ln_m_left_70 rfl rfl (Nat.le_of_ble_eq_true rfl) (Im_in  ⟨(in32 (a := x1) (b := 0) (c := 999) rfl (by decide) (by decide)).symm, rfl⟩) (fun r g' hh => ?_)
  obtain ⟨rfl, rfl⟩ := hh
  refine e_if_eq (tgt := 24) (dx D_m_left 7 rfl) (by decide) (fun c => ?_) (fun c => ?_)
  · replace h := h.2 (bP_z c)
    refine q_bipush (v := (-2)) (dx D_m_left 12 rfl) (by decide) ?_
    exact e_iret (dx D_m_left 13 rfl) rfl rfl ⟨_, rfl, h⟩
  · replace h := h.1 (bP_n c)
    refine e_aload_n (dx D_m_left 8 rfl) rfl ?_
    refine e_iload_n (dx D_m_left 9 rfl) rfl ?_
    refine e_callVi (rest := []) [.int x1] (dx D_m_left 10 rfl) ln_m_left_228 rfl rfl rfl (Nat.le_of_ble_eq_true rfl) h (fun r3 g2 h => ?_)
    refine e_goto (tgt := 26) (dx D_m_left 11 rfl) (by decide) ?_
    exact e_iret (dx D_m_left 13 rfl) rfl rfl ⟨_, rfl, h⟩
abbrev Cm_burnsBy (x1 : Int32) (x2 : Int32) (x3 : Int32) (x4 : Int32) (x5 : Int32) (g : Sg) (Q : Int32 → Sg → Prop) : Prop := Ci Mm_burnsBy [.ref 34, .int x1, .int x2, .int x3, .int x4, .int x5] g Q
abbrev Hm_burnsBy_6 (x1 : Int32) (x2 : Int32) (x3 : Int32) (x4 : Int32) (x5 : Int32) (x6 : Int32) (x7 : Int32) (g : Sg) (Q : Int32 → Sg → Prop) : Prop := Hi Mm_burnsBy 6 [some (.ref 34), some (.int x1), some (.int x2), some (.int x3), some (.int x4), some (.int x5), some (.int x6), some (.int x7), none] [] g Q
abbrev Hm_burnsBy_20 (x1 : Int32) (x2 : Int32) (x3 : Int32) (x4 : Int32) (x5 : Int32) (x6 : Int32) (x7 : Int32) (x8 : Int32) (g : Sg) (Q : Int32 → Sg → Prop) : Prop := Hi Mm_burnsBy 20 [some (.ref 34), some (.int x1), some (.int x2), some (.int x3), some (.int x4), some (.int x5), some (.int x6), some (.int x7), some (.int x8)] [] g Q
set_option maxRecDepth 20000 in
theorem Vm_burnsBy {x1 : Int32} {x2 : Int32} {x3 : Int32} {x4 : Int32} {x5 : Int32} {g : Sg} {Q : Int32 → Sg → Prop} (h : Hm_burnsBy_6 x1 x2 x3 x4 x5 1 0 g Q) : Cm_burnsBy x1 x2 x3 x4 x5 g Q := by
  refine Cl.of 3 pl_X9 rfl ?_
  refine q_iconst (v := 1) (dx D_m_burnsBy 0 rfl) (by decide) ?_
  refine q_istore (L' := [some (.ref 34), some (.int x1), some (.int x2), some (.int x3), some (.int x4), some (.int x5), some (.int 1), none, none]) (dx D_m_burnsBy 1 rfl) (by decide) rfl ?_
  refine q_iconst (v := 0) (dx D_m_burnsBy 2 rfl) (by decide) ?_
  refine q_istore (L' := [some (.ref 34), some (.int x1), some (.int x2), some (.int x3), some (.int x4), some (.int x5), some (.int 1), some (.int 0), none]) (dx D_m_burnsBy 3 rfl) (by decide) rfl ?_
  exact h
set_option maxRecDepth 20000 in
theorem Vm_burnsBy_6 {x1 : Int32} {x2 : Int32} {x3 : Int32} {x4 : Int32} {x5 : Int32} {x6 : Int32} {x7 : Int32} {g : Sg} {Q : Int32 → Sg → Prop} (h : ((x6 = x7 → Q x6 g) ∧ (¬ x6 = x7 → Hm_burnsBy_20 x1 x2 x3 x4 x5 x6 x6 0 g Q))) : Hm_burnsBy_6 x1 x2 x3 x4 x5 x6 x7 g Q := by
  refine e_iload (dx D_m_burnsBy 4 rfl) rfl ?_
  refine e_iload (dx D_m_burnsBy 5 rfl) rfl ?_
  refine e_icmp_eq (tgt := 124) (dx D_m_burnsBy 6 rfl) (by decide) (fun c => ?_) (fun c => ?_)
  · replace h := h.1 c
    refine e_iload (dx D_m_burnsBy 66 rfl) rfl ?_
    exact e_iret (dx D_m_burnsBy 67 rfl) rfl rfl ⟨_, rfl, h⟩
  · replace h := h.2 c
    refine e_iload (dx D_m_burnsBy 7 rfl) rfl ?_
    refine q_istore (L' := [some (.ref 34), some (.int x1), some (.int x2), some (.int x3), some (.int x4), some (.int x5), some (.int x6), some (.int x6), none]) (dx D_m_burnsBy 8 rfl) (by decide) rfl ?_
    refine q_iconst (v := 0) (dx D_m_burnsBy 9 rfl) (by decide) ?_
    refine q_istore (L' := [some (.ref 34), some (.int x1), some (.int x2), some (.int x3), some (.int x4), some (.int x5), some (.int x6), some (.int x6), some (.int 0)]) (dx D_m_burnsBy 10 rfl) (by decide) rfl ?_
    exact h
set_option maxRecDepth 20000 in
theorem Vm_burnsBy_20 {x1 : Int32} {x2 : Int32} {x3 : Int32} {x4 : Int32} {x5 : Int32} {x6 : Int32} {x7 : Int32} {x8 : Int32} {g : Sg} {Q : Int32 → Sg → Prop} (h : ((16 ≤ x8 → ((x2 = (-1) → ((x4 = (-1) → Hm_burnsBy_6 x1 x2 x3 x4 x5 ((x6 ||| 0) ||| 0) x7 g Q) ∧ (¬ x4 = (-1) → Hm_burnsBy_6 x1 x2 x3 x4 x5 ((x6 ||| 0) ||| (if tbb (x6 ||| 0) x4 = true ∨ tbb (x6 ||| 0) x5 = true then sb x4 ||| sb x5 else 0)) x7 g Q))) ∧ (¬ x2 = (-1) → ((x4 = (-1) → Hm_burnsBy_6 x1 x2 x3 x4 x5 ((x6 ||| (if tbb x6 x2 = true ∨ tbb x6 x3 = true then sb x2 ||| sb x3 else 0)) ||| 0) x7 g Q) ∧ (¬ x4 = (-1) → Hm_burnsBy_6 x1 x2 x3 x4 x5 ((x6 ||| (if tbb x6 x2 = true ∨ tbb x6 x3 = true then sb x2 ||| sb x3 else 0)) ||| (if tbb (x6 ||| (if tbb x6 x2 = true ∨ tbb x6 x3 = true then sb x2 ||| sb x3 else 0)) x4 = true ∨ tbb (x6 ||| (if tbb x6 x2 = true ∨ tbb x6 x3 = true then sb x2 ||| sb x3 else 0)) x5 = true then sb x4 ||| sb x5 else 0)) x7 g Q))))) ∧ (¬ 16 ≤ x8 → (((tbb x1 x8 = true) → vp_in (2 * x8) 32 ∧ vp_in ((2 * x8) + 1) 32 ∧ Hm_burnsBy_20 x1 x2 x3 x4 x5 (x6 ||| (if tbb x6 (g 42 (2 * x8).toNatClampNeg) = true ∨ tbb x6 (g 42 ((2 * x8) + 1).toNatClampNeg) = true then sb (g 42 (2 * x8).toNatClampNeg) ||| sb (g 42 ((2 * x8) + 1).toNatClampNeg) else 0)) x7 (x8 + 1) g Q) ∧ (¬ (tbb x1 x8 = true) → Hm_burnsBy_20 x1 x2 x3 x4 x5 (x6 ||| 0) x7 (x8 + 1) g Q))))) : Hm_burnsBy_20 x1 x2 x3 x4 x5 x6 x7 x8 g Q := by
  refine e_iload (dx D_m_burnsBy 11 rfl) rfl ?_
  refine q_bipush (v := 16) (dx D_m_burnsBy 12 rfl) (by decide) ?_
  refine e_icmp_ge (tgt := 76) (dx D_m_burnsBy 13 rfl) (by decide) (fun c => ?_) (fun c => ?_)
  · replace h := h.1 c
    refine e_iload (dx D_m_burnsBy 41 rfl) rfl ?_
    refine e_iload_n (dx D_m_burnsBy 42 rfl) rfl ?_
    refine q_iconst (v := (-1)) (dx D_m_burnsBy 43 rfl) (by decide) ?_
    refine e_icmp_ne (tgt := 87) (dx D_m_burnsBy 44 rfl) (by decide) (fun c => ?_) (fun c => ?_)
    · replace h := h.2 c
      refine e_iload (dx D_m_burnsBy 47 rfl) rfl ?_
      refine e_iload_n (dx D_m_burnsBy 48 rfl) rfl ?_
      refine e_iload_n (dx D_m_burnsBy 49 rfl) rfl ?_
      refine e_callSi (Q1 := fun r g' => (if tbb x6 x2 = true ∨ tbb x6 x3 = true then sb x2 ||| sb x3 else 0) = r ∧ g = g') (rest := [.int x6]) [.int x6, .int x2, .int x3] (dx D_m_burnsBy 50 rfl) ln_m_burnsBy_231 rfl rfl (Nat.le_of_ble_eq_true rfl) (Im_joined  ⟨rfl, rfl⟩) (fun r g' hh => ?_)
      obtain ⟨rfl, rfl⟩ := hh
      refine e_ior (dx D_m_burnsBy 51 rfl) ?_
      refine q_istore (L' := [some (.ref 34), some (.int x1), some (.int x2), some (.int x3), some (.int x4), some (.int x5), some (.int (x6 ||| (if tbb x6 x2 = true ∨ tbb x6 x3 = true then sb x2 ||| sb x3 else 0))), some (.int x7), some (.int x8)]) (dx D_m_burnsBy 52 rfl) (by decide) rfl ?_
      refine e_iload (dx D_m_burnsBy 53 rfl) rfl ?_
      refine e_iload (dx D_m_burnsBy 54 rfl) rfl ?_
      refine q_iconst (v := (-1)) (dx D_m_burnsBy 55 rfl) (by decide) ?_
      refine e_icmp_ne (tgt := 109) (dx D_m_burnsBy 56 rfl) (by decide) (fun c => ?_) (fun c => ?_)
      · replace h := h.2 c
        refine e_iload (dx D_m_burnsBy 59 rfl) rfl ?_
        refine e_iload (dx D_m_burnsBy 60 rfl) rfl ?_
        refine e_iload (dx D_m_burnsBy 61 rfl) rfl ?_
        refine e_callSi (Q1 := fun r g' => (if tbb (x6 ||| (if tbb x6 x2 = true ∨ tbb x6 x3 = true then sb x2 ||| sb x3 else 0)) x4 = true ∨ tbb (x6 ||| (if tbb x6 x2 = true ∨ tbb x6 x3 = true then sb x2 ||| sb x3 else 0)) x5 = true then sb x4 ||| sb x5 else 0) = r ∧ g = g') (rest := [.int (x6 ||| (if tbb x6 x2 = true ∨ tbb x6 x3 = true then sb x2 ||| sb x3 else 0))]) [.int (x6 ||| (if tbb x6 x2 = true ∨ tbb x6 x3 = true then sb x2 ||| sb x3 else 0)), .int x4, .int x5] (dx D_m_burnsBy 62 rfl) ln_m_burnsBy_231 rfl rfl (Nat.le_of_ble_eq_true rfl) (Im_joined  ⟨rfl, rfl⟩) (fun r g' hh => ?_)
        obtain ⟨rfl, rfl⟩ := hh
        refine e_ior (dx D_m_burnsBy 63 rfl) ?_
        refine q_istore (L' := [some (.ref 34), some (.int x1), some (.int x2), some (.int x3), some (.int x4), some (.int x5), some (.int ((x6 ||| (if tbb x6 x2 = true ∨ tbb x6 x3 = true then sb x2 ||| sb x3 else 0)) ||| (if tbb (x6 ||| (if tbb x6 x2 = true ∨ tbb x6 x3 = true then sb x2 ||| sb x3 else 0)) x4 = true ∨ tbb (x6 ||| (if tbb x6 x2 = true ∨ tbb x6 x3 = true then sb x2 ||| sb x3 else 0)) x5 = true then sb x4 ||| sb x5 else 0))), some (.int x7), some (.int x8)]) (dx D_m_burnsBy 64 rfl) (by decide) rfl ?_
        refine e_goto (tgt := 6) (dx D_m_burnsBy 65 rfl) (by decide) ?_
        exact Wp.mask [true, true, true, true, true, true, true, true, false] h
      · replace h := h.1 c
        refine q_iconst (v := 0) (dx D_m_burnsBy 57 rfl) (by decide) ?_
        refine e_goto (tgt := 118) (dx D_m_burnsBy 58 rfl) (by decide) ?_
        refine e_ior (dx D_m_burnsBy 63 rfl) ?_
        refine q_istore (L' := [some (.ref 34), some (.int x1), some (.int x2), some (.int x3), some (.int x4), some (.int x5), some (.int ((x6 ||| (if tbb x6 x2 = true ∨ tbb x6 x3 = true then sb x2 ||| sb x3 else 0)) ||| 0)), some (.int x7), some (.int x8)]) (dx D_m_burnsBy 64 rfl) (by decide) rfl ?_
        refine e_goto (tgt := 6) (dx D_m_burnsBy 65 rfl) (by decide) ?_
        exact Wp.mask [true, true, true, true, true, true, true, true, false] h
    · replace h := h.1 c
      refine q_iconst (v := 0) (dx D_m_burnsBy 45 rfl) (by decide) ?_
      refine e_goto (tgt := 94) (dx D_m_burnsBy 46 rfl) (by decide) ?_
      refine e_ior (dx D_m_burnsBy 51 rfl) ?_
      refine q_istore (L' := [some (.ref 34), some (.int x1), some (.int x2), some (.int x3), some (.int x4), some (.int x5), some (.int (x6 ||| 0)), some (.int x7), some (.int x8)]) (dx D_m_burnsBy 52 rfl) (by decide) rfl ?_
      refine e_iload (dx D_m_burnsBy 53 rfl) rfl ?_
      refine e_iload (dx D_m_burnsBy 54 rfl) rfl ?_
      refine q_iconst (v := (-1)) (dx D_m_burnsBy 55 rfl) (by decide) ?_
      refine e_icmp_ne (tgt := 109) (dx D_m_burnsBy 56 rfl) (by decide) (fun c => ?_) (fun c => ?_)
      · replace h := h.2 c
        refine e_iload (dx D_m_burnsBy 59 rfl) rfl ?_
        refine e_iload (dx D_m_burnsBy 60 rfl) rfl ?_
        refine e_iload (dx D_m_burnsBy 61 rfl) rfl ?_
        refine e_callSi (Q1 := fun r g' => (if tbb (x6 ||| 0) x4 = true ∨ tbb (x6 ||| 0) x5 = true then sb x4 ||| sb x5 else 0) = r ∧ g = g') (rest := [.int (x6 ||| 0)]) [.int (x6 ||| 0), .int x4, .int x5] (dx D_m_burnsBy 62 rfl) ln_m_burnsBy_231 rfl rfl (Nat.le_of_ble_eq_true rfl) (Im_joined  ⟨rfl, rfl⟩) (fun r g' hh => ?_)
        obtain ⟨rfl, rfl⟩ := hh
        refine e_ior (dx D_m_burnsBy 63 rfl) ?_
        refine q_istore (L' := [some (.ref 34), some (.int x1), some (.int x2), some (.int x3), some (.int x4), some (.int x5), some (.int ((x6 ||| 0) ||| (if tbb (x6 ||| 0) x4 = true ∨ tbb (x6 ||| 0) x5 = true then sb x4 ||| sb x5 else 0))), some (.int x7), some (.int x8)]) (dx D_m_burnsBy 64 rfl) (by decide) rfl ?_
        refine e_goto (tgt := 6) (dx D_m_burnsBy 65 rfl) (by decide) ?_
        exact Wp.mask [true, true, true, true, true, true, true, true, false] h
      · replace h := h.1 c
        refine q_iconst (v := 0) (dx D_m_burnsBy 57 rfl) (by decide) ?_
        refine e_goto (tgt := 118) (dx D_m_burnsBy 58 rfl) (by decide) ?_
        refine e_ior (dx D_m_burnsBy 63 rfl) ?_
        refine q_istore (L' := [some (.ref 34), some (.int x1), some (.int x2), some (.int x3), some (.int x4), some (.int x5), some (.int ((x6 ||| 0) ||| 0)), some (.int x7), some (.int x8)]) (dx D_m_burnsBy 64 rfl) (by decide) rfl ?_
        refine e_goto (tgt := 6) (dx D_m_burnsBy 65 rfl) (by decide) ?_
        exact Wp.mask [true, true, true, true, true, true, true, true, false] h
  · replace h := h.2 c
    refine e_iload (dx D_m_burnsBy 14 rfl) rfl ?_
    refine e_iload_n (dx D_m_burnsBy 15 rfl) rfl ?_
    refine e_iload (dx D_m_burnsBy 16 rfl) rfl ?_
    refine e_callSi (Q1 := fun r g' => bP (tbb x1 x8 = true) = r ∧ g = g') (rest := [.int x6]) [.int x1, .int x8] (dx D_m_burnsBy 17 rfl) ln_m_burnsBy_149 rfl rfl (Nat.le_of_ble_eq_true rfl) (Im_isIn  ⟨rfl, rfl⟩) (fun r g' hh => ?_)
    obtain ⟨rfl, rfl⟩ := hh
    refine e_if_eq (tgt := 66) (dx D_m_burnsBy 18 rfl) (by decide) (fun c => ?_) (fun c => ?_)
    · replace h := h.2 (bP_z c)
      refine q_iconst (v := 0) (dx D_m_burnsBy 36 rfl) (by decide) ?_
      refine e_ior (dx D_m_burnsBy 37 rfl) ?_
      refine q_istore (L' := [some (.ref 34), some (.int x1), some (.int x2), some (.int x3), some (.int x4), some (.int x5), some (.int (x6 ||| 0)), some (.int x7), some (.int x8)]) (dx D_m_burnsBy 38 rfl) (by decide) rfl ?_
      refine q_iinc (d := 1) (L' := [some (.ref 34), some (.int x1), some (.int x2), some (.int x3), some (.int x4), some (.int x5), some (.int (x6 ||| 0)), some (.int x7), some (.int (x8 + 1))]) (dx D_m_burnsBy 39 rfl) rfl (by decide) (by decide) rfl ?_
      refine e_goto (tgt := 20) (dx D_m_burnsBy 40 rfl) (by decide) ?_
      exact h
    · replace h := h.1 (bP_n c)
      refine e_iload (dx D_m_burnsBy 19 rfl) rfl ?_
      refine e_aload_n (dx D_m_burnsBy 20 rfl) rfl ?_
      refine e_getR (dx D_m_burnsBy 21 rfl) fl_RX9_31 rfl rfl ?_
      refine q_iconst (v := 2) (dx D_m_burnsBy 22 rfl) (by decide) ?_
      refine e_iload (dx D_m_burnsBy 23 rfl) rfl ?_
      refine e_imul (dx D_m_burnsBy 24 rfl) ?_
      obtain ⟨hb1, h⟩ := h
      refine e_iald (dx D_m_burnsBy 25 rfl) rfl hb1 ?_
      refine e_aload_n (dx D_m_burnsBy 26 rfl) rfl ?_
      refine e_getR (dx D_m_burnsBy 27 rfl) fl_RX9_31 rfl rfl ?_
      refine q_iconst (v := 2) (dx D_m_burnsBy 28 rfl) (by decide) ?_
      refine e_iload (dx D_m_burnsBy 29 rfl) rfl ?_
      refine e_imul (dx D_m_burnsBy 30 rfl) ?_
      refine q_iconst (v := 1) (dx D_m_burnsBy 31 rfl) (by decide) ?_
      refine e_iadd (dx D_m_burnsBy 32 rfl) ?_
      obtain ⟨hb2, h⟩ := h
      refine e_iald (dx D_m_burnsBy 33 rfl) rfl hb2 ?_
      refine e_callSi (Q1 := fun r g' => (if tbb x6 (g 42 (2 * x8).toNatClampNeg) = true ∨ tbb x6 (g 42 ((2 * x8) + 1).toNatClampNeg) = true then sb (g 42 (2 * x8).toNatClampNeg) ||| sb (g 42 ((2 * x8) + 1).toNatClampNeg) else 0) = r ∧ g = g') (rest := [.int x6]) [.int x6, .int (g 42 (2 * x8).toNatClampNeg), .int (g 42 ((2 * x8) + 1).toNatClampNeg)] (dx D_m_burnsBy 34 rfl) ln_m_burnsBy_231 rfl rfl (Nat.le_of_ble_eq_true rfl) (Im_joined  ⟨rfl, rfl⟩) (fun r g' hh => ?_)
      obtain ⟨rfl, rfl⟩ := hh
      refine e_goto (tgt := 67) (dx D_m_burnsBy 35 rfl) (by decide) ?_
      refine e_ior (dx D_m_burnsBy 37 rfl) ?_
      refine q_istore (L' := [some (.ref 34), some (.int x1), some (.int x2), some (.int x3), some (.int x4), some (.int x5), some (.int (x6 ||| (if tbb x6 (g 42 (2 * x8).toNatClampNeg) = true ∨ tbb x6 (g 42 ((2 * x8) + 1).toNatClampNeg) = true then sb (g 42 (2 * x8).toNatClampNeg) ||| sb (g 42 ((2 * x8) + 1).toNatClampNeg) else 0))), some (.int x7), some (.int x8)]) (dx D_m_burnsBy 38 rfl) (by decide) rfl ?_
      refine q_iinc (d := 1) (L' := [some (.ref 34), some (.int x1), some (.int x2), some (.int x3), some (.int x4), some (.int x5), some (.int (x6 ||| (if tbb x6 (g 42 (2 * x8).toNatClampNeg) = true ∨ tbb x6 (g 42 ((2 * x8) + 1).toNatClampNeg) = true then sb (g 42 (2 * x8).toNatClampNeg) ||| sb (g 42 ((2 * x8) + 1).toNatClampNeg) else 0))), some (.int x7), some (.int (x8 + 1))]) (dx D_m_burnsBy 39 rfl) rfl (by decide) (by decide) rfl ?_
      refine e_goto (tgt := 20) (dx D_m_burnsBy 40 rfl) (by decide) ?_
      exact h
abbrev Cm_burnsNow (x1 : Int32) (g : Sg) (Q : Int32 → Sg → Prop) : Prop := Ci Mm_burnsNow [.ref 34, .int x1] g Q
set_option maxRecDepth 20000 in
theorem Vm_burnsNow {x1 : Int32} {g : Sg} {Q : Int32 → Sg → Prop} (h : Cm_burnsBy ((g 34 15) &&& (x1 ^^^ (-1))) (-1) (-1) (-1) (-1) g (fun r2 g1 => Q r2 g1)) : Cm_burnsNow x1 g Q := by
  refine Cl.of 0 pl_X9 rfl ?_
  refine e_aload_n (dx D_m_burnsNow 0 rfl) rfl ?_
  refine e_aload_n (dx D_m_burnsNow 1 rfl) rfl ?_
  refine e_getI (dx D_m_burnsNow 2 rfl) fl_RX9_165 rfl rfl ?_
  refine e_iload_n (dx D_m_burnsNow 3 rfl) rfl ?_
  refine q_iconst (v := (-1)) (dx D_m_burnsNow 4 rfl) (by decide) ?_
  refine e_ixor (dx D_m_burnsNow 5 rfl) ?_
  refine e_iand (dx D_m_burnsNow 6 rfl) ?_
  refine q_iconst (v := (-1)) (dx D_m_burnsNow 7 rfl) (by decide) ?_
  refine q_iconst (v := (-1)) (dx D_m_burnsNow 8 rfl) (by decide) ?_
  refine q_iconst (v := (-1)) (dx D_m_burnsNow 9 rfl) (by decide) ?_
  refine q_iconst (v := (-1)) (dx D_m_burnsNow 10 rfl) (by decide) ?_
  refine e_callVi (rest := []) [.int ((g 34 15) &&& (x1 ^^^ (-1))), .int (-1), .int (-1), .int (-1), .int (-1)] (dx D_m_burnsNow 11 rfl) ln_m_burnsNow_234 rfl rfl rfl (Nat.le_of_ble_eq_true rfl) h (fun r2 g1 h => ?_)
  exact e_iret (dx D_m_burnsNow 12 rfl) rfl rfl ⟨_, rfl, h⟩
abbrev Cm_burns (x1 : Int32) (g : Sg) (Q : Int32 → Sg → Prop) : Prop := Ci Mm_burns [.ref 34, .int x1] g Q
set_option maxRecDepth 20000 in
theorem Vm_burns {x1 : Int32} {g : Sg} {Q : Int32 → Sg → Prop} (h : Cm_goesAll g (fun g1 => (((0 ≤ x1 ∧ x1 ≤ 65535) → Cm_burnsNow x1 g1 (fun r3 g2 => Q r3 g2)) ∧ (¬ (0 ≤ x1 ∧ x1 ≤ 65535) → Q (-2) g1)))) : Cm_burns x1 g Q := by
  refine Cl.of 0 pl_X9 rfl ?_
  refine e_aload_n (dx D_m_burns 0 rfl) rfl ?_
  refine e_callVv (rest := []) [] (dx D_m_burns 1 rfl) ln_m_burns_186 rfl rfl rfl (Nat.le_of_ble_eq_true rfl) h (fun g1 h => ?_)
  refine e_iload_n (dx D_m_burns 2 rfl) rfl ?_
  refine e_i2l (dx D_m_burns 3 rfl) ?_
  refine q_lconst (v := 0) (dx D_m_burns 4 rfl) (by decide) ?_
  refine e_ldc2 (v := 65535) (dx D_m_burns 5 rfl) k1116 ?_
  refine e_callSi (Q1 := fun r g' => bP (0 ≤ x1 ∧ x1 ≤ 65535) = r ∧ g1 = g') (rest := []) [.long (Int32.toInt64 x1), .long 0, .long 65535] (dx D_m_burns 6 rfl) ln_m_burns_70 rfl rfl (Nat.le_of_ble_eq_true rfl) (Im_in  ⟨(in32 (a := x1) (b := 0) (c := 65535) rfl (by decide) (by decide)).symm, rfl⟩) (fun r g' hh => ?_)
  obtain ⟨rfl, rfl⟩ := hh
  refine e_if_eq (tgt := 24) (dx D_m_burns 7 rfl) (by decide) (fun c => ?_) (fun c => ?_)
  · replace h := h.2 (bP_z c)
    refine q_bipush (v := (-2)) (dx D_m_burns 12 rfl) (by decide) ?_
    exact e_iret (dx D_m_burns 13 rfl) rfl rfl ⟨_, rfl, h⟩
  · replace h := h.1 (bP_n c)
    refine e_aload_n (dx D_m_burns 8 rfl) rfl ?_
    refine e_iload_n (dx D_m_burns 9 rfl) rfl ?_
    refine e_callVi (rest := []) [.int x1] (dx D_m_burns 10 rfl) ln_m_burns_238 rfl rfl rfl (Nat.le_of_ble_eq_true rfl) h (fun r3 g2 h => ?_)
    refine e_goto (tgt := 26) (dx D_m_burns 11 rfl) (by decide) ?_
    exact e_iret (dx D_m_burns 13 rfl) rfl rfl ⟨_, rfl, h⟩
abbrev Cm_lights (x1 : Int32) (x2 : Int32) (x3 : Int32) (g : Sg) (Q : Int32 → Sg → Prop) : Prop := Ci Mm_lights [.ref 34, .int x1, .int x2, .int x3] g Q
abbrev Hm_lights_26 (x1 : Int32) (x2 : Int32) (x3 : Int32) (x4 : Int32) (g : Sg) (Q : Int32 → Sg → Prop) : Prop := Hi Mm_lights 26 [some (.ref 34), some (.int x1), some (.int x2), some (.int x3), some (.int x4), none, none] [] g Q
abbrev Hm_lights_53 (x1 : Int32) (x2 : Int32) (x3 : Int32) (x4 : Int32) (x5 : Int32) (g : Sg) (Q : Int32 → Sg → Prop) : Prop := Hi Mm_lights 53 [some (.ref 34), some (.int x1), some (.int x2), some (.int x3), some (.int x4), some (.int x5), none] [] g Q
set_option maxRecDepth 20000 in
theorem Vm_lights {x1 : Int32} {x2 : Int32} {x3 : Int32} {g : Sg} {Q : Int32 → Sg → Prop} (h : Cm_keeps g (fun g1 => Cm_draws (x2 / 8) (x2 - x2 / 8 * 8) g1 (fun r3 g2 => ((r3 = 0 → Hm_lights_26 x1 x2 x3 0 g2 Q) ∧ (¬ r3 = 0 → Hm_lights_26 x1 x2 x3 1 g2 Q))))) : Cm_lights x1 x2 x3 g Q := by
  refine Cl.of 3 pl_X9 rfl ?_
  refine e_aload_n (dx D_m_lights 0 rfl) rfl ?_
  refine e_callVv (rest := []) [] (dx D_m_lights 1 rfl) ln_m_lights_207 rfl rfl rfl (Nat.le_of_ble_eq_true rfl) h (fun g1 h => ?_)
  refine e_aload_n (dx D_m_lights 2 rfl) rfl ?_
  refine e_iload_n (dx D_m_lights 3 rfl) rfl ?_
  refine q_bipush (v := 8) (dx D_m_lights 4 rfl) (by decide) ?_
  refine e_idiv (dx D_m_lights 5 rfl) (by decide) ?_
  refine e_iload_n (dx D_m_lights 6 rfl) rfl ?_
  refine q_bipush (v := 8) (dx D_m_lights 7 rfl) (by decide) ?_
  refine e_irem (dx D_m_lights 8 rfl) (by decide) ?_
  refine e_callVi (rest := []) [.int (x2 / 8), .int (x2 - x2 / 8 * 8)] (dx D_m_lights 9 rfl) ln_m_lights_174 rfl rfl rfl (Nat.le_of_ble_eq_true rfl) h (fun r3 g2 h => ?_)
  refine e_if_eq (tgt := 23) (dx D_m_lights 10 rfl) (by decide) (fun c => ?_) (fun c => ?_)
  · replace h := h.1 c
    refine q_iconst (v := 0) (dx D_m_lights 13 rfl) (by decide) ?_
    refine q_istore (L' := [some (.ref 34), some (.int x1), some (.int x2), some (.int x3), some (.int 0), none, none]) (dx D_m_lights 14 rfl) (by decide) rfl ?_
    exact h
  · replace h := h.2 c
    refine q_iconst (v := 1) (dx D_m_lights 11 rfl) (by decide) ?_
    refine e_goto (tgt := 24) (dx D_m_lights 12 rfl) (by decide) ?_
    refine q_istore (L' := [some (.ref 34), some (.int x1), some (.int x2), some (.int x3), some (.int 1), none, none]) (dx D_m_lights 14 rfl) (by decide) rfl ?_
    exact h
set_option maxRecDepth 20000 in
theorem Vm_lights_26 {x1 : Int32} {x2 : Int32} {x3 : Int32} {x4 : Int32} {g : Sg} {Q : Int32 → Sg → Prop} (h : ((x3 = (-1) → Hm_lights_53 x1 x2 x3 x4 0 g Q) ∧ (¬ x3 = (-1) → Cm_draws (x3 / 8) (x3 - x3 / 8 * 8) g (fun r2 g1 => ((r2 = 0 → Hm_lights_53 x1 x2 x3 x4 0 g1 Q) ∧ (¬ r2 = 0 → Hm_lights_53 x1 x2 x3 x4 1 g1 Q)))))) : Hm_lights_26 x1 x2 x3 x4 g Q := by
  refine e_iload_n (dx D_m_lights 15 rfl) rfl ?_
  refine q_iconst (v := (-1)) (dx D_m_lights 16 rfl) (by decide) ?_
  refine e_icmp_eq (tgt := 50) (dx D_m_lights 17 rfl) (by decide) (fun c => ?_) (fun c => ?_)
  · replace h := h.1 c
    refine q_iconst (v := 0) (dx D_m_lights 29 rfl) (by decide) ?_
    refine q_istore (L' := [some (.ref 34), some (.int x1), some (.int x2), some (.int x3), some (.int x4), some (.int 0), none]) (dx D_m_lights 30 rfl) (by decide) rfl ?_
    exact h
  · replace h := h.2 c
    refine e_aload_n (dx D_m_lights 18 rfl) rfl ?_
    refine e_iload_n (dx D_m_lights 19 rfl) rfl ?_
    refine q_bipush (v := 8) (dx D_m_lights 20 rfl) (by decide) ?_
    refine e_idiv (dx D_m_lights 21 rfl) (by decide) ?_
    refine e_iload_n (dx D_m_lights 22 rfl) rfl ?_
    refine q_bipush (v := 8) (dx D_m_lights 23 rfl) (by decide) ?_
    refine e_irem (dx D_m_lights 24 rfl) (by decide) ?_
    refine e_callVi (rest := []) [.int (x3 / 8), .int (x3 - x3 / 8 * 8)] (dx D_m_lights 25 rfl) ln_m_lights_174 rfl rfl rfl (Nat.le_of_ble_eq_true rfl) h (fun r2 g1 h => ?_)
    refine e_if_eq (tgt := 50) (dx D_m_lights 26 rfl) (by decide) (fun c => ?_) (fun c => ?_)
    · replace h := h.1 c
      refine q_iconst (v := 0) (dx D_m_lights 29 rfl) (by decide) ?_
      refine q_istore (L' := [some (.ref 34), some (.int x1), some (.int x2), some (.int x3), some (.int x4), some (.int 0), none]) (dx D_m_lights 30 rfl) (by decide) rfl ?_
      exact h
    · replace h := h.2 c
      refine q_iconst (v := 1) (dx D_m_lights 27 rfl) (by decide) ?_
      refine e_goto (tgt := 51) (dx D_m_lights 28 rfl) (by decide) ?_
      refine q_istore (L' := [some (.ref 34), some (.int x1), some (.int x2), some (.int x3), some (.int x4), some (.int 1), none]) (dx D_m_lights 30 rfl) (by decide) rfl ?_
      exact h
set_option maxRecDepth 20000 in
theorem Vm_lights_53 {x1 : Int32} {x2 : Int32} {x3 : Int32} {x4 : Int32} {x5 : Int32} {g : Sg} {Q : Int32 → Sg → Prop} (h : Cm_putsBack g (fun g1 => ((x4 = 0 → ((x5 = 0 → ((x5 = 0 → Cm_burnsBy (g1 34 15) (-1) (x2 - x2 / 8 * 8) (-1) (-1) g1 (fun r3 g2 => (((x1 &&& (r3 ^^^ (-1))) = 0 → Q 1 g2) ∧ (¬ (x1 &&& (r3 ^^^ (-1))) = 0 → Q 0 g2)))) ∧ (¬ x5 = 0 → Cm_burnsBy (g1 34 15) (-1) (x2 - x2 / 8 * 8) (-1) (x3 - x3 / 8 * 8) g1 (fun r5 g4 => (((x1 &&& (r5 ^^^ (-1))) = 0 → Q 1 g4) ∧ (¬ (x1 &&& (r5 ^^^ (-1))) = 0 → Q 0 g4)))))) ∧ (¬ x5 = 0 → ((x5 = 0 → Cm_burnsBy (g1 34 15) (-1) (x2 - x2 / 8 * 8) (x3 / 8) (-1) g1 (fun r7 g6 => (((x1 &&& (r7 ^^^ (-1))) = 0 → Q 1 g6) ∧ (¬ (x1 &&& (r7 ^^^ (-1))) = 0 → Q 0 g6)))) ∧ (¬ x5 = 0 → Cm_burnsBy (g1 34 15) (-1) (x2 - x2 / 8 * 8) (x3 / 8) (x3 - x3 / 8 * 8) g1 (fun r9 g8 => (((x1 &&& (r9 ^^^ (-1))) = 0 → Q 1 g8) ∧ (¬ (x1 &&& (r9 ^^^ (-1))) = 0 → Q 0 g8)))))))) ∧ (¬ x4 = 0 → ((x5 = 0 → ((x5 = 0 → Cm_burnsBy (g1 34 15) (x2 / 8) (x2 - x2 / 8 * 8) (-1) (-1) g1 (fun r11 g10 => (((x1 &&& (r11 ^^^ (-1))) = 0 → Q 1 g10) ∧ (¬ (x1 &&& (r11 ^^^ (-1))) = 0 → Q 0 g10)))) ∧ (¬ x5 = 0 → Cm_burnsBy (g1 34 15) (x2 / 8) (x2 - x2 / 8 * 8) (-1) (x3 - x3 / 8 * 8) g1 (fun r13 g12 => (((x1 &&& (r13 ^^^ (-1))) = 0 → Q 1 g12) ∧ (¬ (x1 &&& (r13 ^^^ (-1))) = 0 → Q 0 g12)))))) ∧ (¬ x5 = 0 → ((x5 = 0 → Cm_burnsBy (g1 34 15) (x2 / 8) (x2 - x2 / 8 * 8) (x3 / 8) (-1) g1 (fun r15 g14 => (((x1 &&& (r15 ^^^ (-1))) = 0 → Q 1 g14) ∧ (¬ (x1 &&& (r15 ^^^ (-1))) = 0 → Q 0 g14)))) ∧ (¬ x5 = 0 → Cm_burnsBy (g1 34 15) (x2 / 8) (x2 - x2 / 8 * 8) (x3 / 8) (x3 - x3 / 8 * 8) g1 (fun r17 g16 => (((x1 &&& (r17 ^^^ (-1))) = 0 → Q 1 g16) ∧ (¬ (x1 &&& (r17 ^^^ (-1))) = 0 → Q 0 g16))))))))))) : Hm_lights_53 x1 x2 x3 x4 x5 g Q := by
  refine e_aload_n (dx D_m_lights 31 rfl) rfl ?_
  refine e_callVv (rest := []) [] (dx D_m_lights 32 rfl) ln_m_lights_210 rfl rfl rfl (Nat.le_of_ble_eq_true rfl) h (fun g1 h => ?_)
  refine e_aload_n (dx D_m_lights 33 rfl) rfl ?_
  refine e_aload_n (dx D_m_lights 34 rfl) rfl ?_
  refine e_getI (dx D_m_lights 35 rfl) fl_RX9_165 rfl rfl ?_
  refine e_iload (dx D_m_lights 36 rfl) rfl ?_
  refine e_if_eq (tgt := 74) (dx D_m_lights 37 rfl) (by decide) (fun c => ?_) (fun c => ?_)
  · replace h := h.1 c
    refine q_iconst (v := (-1)) (dx D_m_lights 42 rfl) (by decide) ?_
    refine e_iload_n (dx D_m_lights 43 rfl) rfl ?_
    refine q_bipush (v := 8) (dx D_m_lights 44 rfl) (by decide) ?_
    refine e_irem (dx D_m_lights 45 rfl) (by decide) ?_
    refine e_iload (dx D_m_lights 46 rfl) rfl ?_
    refine e_if_eq (tgt := 91) (dx D_m_lights 47 rfl) (by decide) (fun c => ?_) (fun c => ?_)
    · replace h := h.1 c
      refine q_iconst (v := (-1)) (dx D_m_lights 52 rfl) (by decide) ?_
      refine e_iload (dx D_m_lights 53 rfl) rfl ?_
      refine e_if_eq (tgt := 104) (dx D_m_lights 54 rfl) (by decide) (fun c => ?_) (fun c => ?_)
      · replace h := h.1 c
        refine q_iconst (v := (-1)) (dx D_m_lights 59 rfl) (by decide) ?_
        refine e_callVi (rest := []) [.int (g1 34 15), .int (-1), .int (x2 - x2 / 8 * 8), .int (-1), .int (-1)] (dx D_m_lights 60 rfl) ln_m_lights_234 rfl rfl rfl (Nat.le_of_ble_eq_true rfl) h (fun r3 g2 h => ?_)
        refine q_istore (L' := [some (.ref 34), some (.int x1), some (.int x2), some (.int x3), some (.int x4), some (.int x5), some (.int r3)]) (dx D_m_lights 61 rfl) (by decide) rfl ?_
        refine e_iload_n (dx D_m_lights 62 rfl) rfl ?_
        refine e_iload (dx D_m_lights 63 rfl) rfl ?_
        refine q_iconst (v := (-1)) (dx D_m_lights 64 rfl) (by decide) ?_
        refine e_ixor (dx D_m_lights 65 rfl) ?_
        refine e_iand (dx D_m_lights 66 rfl) ?_
        refine e_if_ne (tgt := 123) (dx D_m_lights 67 rfl) (by decide) (fun c => ?_) (fun c => ?_)
        · replace h := h.2 c
          refine q_iconst (v := 0) (dx D_m_lights 70 rfl) (by decide) ?_
          exact e_iret (dx D_m_lights 71 rfl) rfl (by decide) ⟨_, rfl, h⟩
        · replace h := h.1 c
          refine q_iconst (v := 1) (dx D_m_lights 68 rfl) (by decide) ?_
          refine e_goto (tgt := 124) (dx D_m_lights 69 rfl) (by decide) ?_
          exact e_iret (dx D_m_lights 71 rfl) rfl (by decide) ⟨_, rfl, h⟩
      · replace h := h.2 c
        refine e_iload_n (dx D_m_lights 55 rfl) rfl ?_
        refine q_bipush (v := 8) (dx D_m_lights 56 rfl) (by decide) ?_
        refine e_irem (dx D_m_lights 57 rfl) (by decide) ?_
        refine e_goto (tgt := 105) (dx D_m_lights 58 rfl) (by decide) ?_
        refine e_callVi (rest := []) [.int (g1 34 15), .int (-1), .int (x2 - x2 / 8 * 8), .int (-1), .int (x3 - x3 / 8 * 8)] (dx D_m_lights 60 rfl) ln_m_lights_234 rfl rfl rfl (Nat.le_of_ble_eq_true rfl) h (fun r5 g4 h => ?_)
        refine q_istore (L' := [some (.ref 34), some (.int x1), some (.int x2), some (.int x3), some (.int x4), some (.int x5), some (.int r5)]) (dx D_m_lights 61 rfl) (by decide) rfl ?_
        refine e_iload_n (dx D_m_lights 62 rfl) rfl ?_
        refine e_iload (dx D_m_lights 63 rfl) rfl ?_
        refine q_iconst (v := (-1)) (dx D_m_lights 64 rfl) (by decide) ?_
        refine e_ixor (dx D_m_lights 65 rfl) ?_
        refine e_iand (dx D_m_lights 66 rfl) ?_
        refine e_if_ne (tgt := 123) (dx D_m_lights 67 rfl) (by decide) (fun c => ?_) (fun c => ?_)
        · replace h := h.2 c
          refine q_iconst (v := 0) (dx D_m_lights 70 rfl) (by decide) ?_
          exact e_iret (dx D_m_lights 71 rfl) rfl (by decide) ⟨_, rfl, h⟩
        · replace h := h.1 c
          refine q_iconst (v := 1) (dx D_m_lights 68 rfl) (by decide) ?_
          refine e_goto (tgt := 124) (dx D_m_lights 69 rfl) (by decide) ?_
          exact e_iret (dx D_m_lights 71 rfl) rfl (by decide) ⟨_, rfl, h⟩
    · replace h := h.2 c
      refine e_iload_n (dx D_m_lights 48 rfl) rfl ?_
      refine q_bipush (v := 8) (dx D_m_lights 49 rfl) (by decide) ?_
      refine e_idiv (dx D_m_lights 50 rfl) (by decide) ?_
      refine e_goto (tgt := 92) (dx D_m_lights 51 rfl) (by decide) ?_
      refine e_iload (dx D_m_lights 53 rfl) rfl ?_
      refine e_if_eq (tgt := 104) (dx D_m_lights 54 rfl) (by decide) (fun c => ?_) (fun c => ?_)
      · replace h := h.1 c
        refine q_iconst (v := (-1)) (dx D_m_lights 59 rfl) (by decide) ?_
        refine e_callVi (rest := []) [.int (g1 34 15), .int (-1), .int (x2 - x2 / 8 * 8), .int (x3 / 8), .int (-1)] (dx D_m_lights 60 rfl) ln_m_lights_234 rfl rfl rfl (Nat.le_of_ble_eq_true rfl) h (fun r7 g6 h => ?_)
        refine q_istore (L' := [some (.ref 34), some (.int x1), some (.int x2), some (.int x3), some (.int x4), some (.int x5), some (.int r7)]) (dx D_m_lights 61 rfl) (by decide) rfl ?_
        refine e_iload_n (dx D_m_lights 62 rfl) rfl ?_
        refine e_iload (dx D_m_lights 63 rfl) rfl ?_
        refine q_iconst (v := (-1)) (dx D_m_lights 64 rfl) (by decide) ?_
        refine e_ixor (dx D_m_lights 65 rfl) ?_
        refine e_iand (dx D_m_lights 66 rfl) ?_
        refine e_if_ne (tgt := 123) (dx D_m_lights 67 rfl) (by decide) (fun c => ?_) (fun c => ?_)
        · replace h := h.2 c
          refine q_iconst (v := 0) (dx D_m_lights 70 rfl) (by decide) ?_
          exact e_iret (dx D_m_lights 71 rfl) rfl (by decide) ⟨_, rfl, h⟩
        · replace h := h.1 c
          refine q_iconst (v := 1) (dx D_m_lights 68 rfl) (by decide) ?_
          refine e_goto (tgt := 124) (dx D_m_lights 69 rfl) (by decide) ?_
          exact e_iret (dx D_m_lights 71 rfl) rfl (by decide) ⟨_, rfl, h⟩
      · replace h := h.2 c
        refine e_iload_n (dx D_m_lights 55 rfl) rfl ?_
        refine q_bipush (v := 8) (dx D_m_lights 56 rfl) (by decide) ?_
        refine e_irem (dx D_m_lights 57 rfl) (by decide) ?_
        refine e_goto (tgt := 105) (dx D_m_lights 58 rfl) (by decide) ?_
        refine e_callVi (rest := []) [.int (g1 34 15), .int (-1), .int (x2 - x2 / 8 * 8), .int (x3 / 8), .int (x3 - x3 / 8 * 8)] (dx D_m_lights 60 rfl) ln_m_lights_234 rfl rfl rfl (Nat.le_of_ble_eq_true rfl) h (fun r9 g8 h => ?_)
        refine q_istore (L' := [some (.ref 34), some (.int x1), some (.int x2), some (.int x3), some (.int x4), some (.int x5), some (.int r9)]) (dx D_m_lights 61 rfl) (by decide) rfl ?_
        refine e_iload_n (dx D_m_lights 62 rfl) rfl ?_
        refine e_iload (dx D_m_lights 63 rfl) rfl ?_
        refine q_iconst (v := (-1)) (dx D_m_lights 64 rfl) (by decide) ?_
        refine e_ixor (dx D_m_lights 65 rfl) ?_
        refine e_iand (dx D_m_lights 66 rfl) ?_
        refine e_if_ne (tgt := 123) (dx D_m_lights 67 rfl) (by decide) (fun c => ?_) (fun c => ?_)
        · replace h := h.2 c
          refine q_iconst (v := 0) (dx D_m_lights 70 rfl) (by decide) ?_
          exact e_iret (dx D_m_lights 71 rfl) rfl (by decide) ⟨_, rfl, h⟩
        · replace h := h.1 c
          refine q_iconst (v := 1) (dx D_m_lights 68 rfl) (by decide) ?_
          refine e_goto (tgt := 124) (dx D_m_lights 69 rfl) (by decide) ?_
          exact e_iret (dx D_m_lights 71 rfl) rfl (by decide) ⟨_, rfl, h⟩
  · replace h := h.2 c
    refine e_iload_n (dx D_m_lights 38 rfl) rfl ?_
    refine q_bipush (v := 8) (dx D_m_lights 39 rfl) (by decide) ?_
    refine e_idiv (dx D_m_lights 40 rfl) (by decide) ?_
    refine e_goto (tgt := 75) (dx D_m_lights 41 rfl) (by decide) ?_
    refine e_iload_n (dx D_m_lights 43 rfl) rfl ?_
    refine q_bipush (v := 8) (dx D_m_lights 44 rfl) (by decide) ?_
    refine e_irem (dx D_m_lights 45 rfl) (by decide) ?_
    refine e_iload (dx D_m_lights 46 rfl) rfl ?_
    refine e_if_eq (tgt := 91) (dx D_m_lights 47 rfl) (by decide) (fun c => ?_) (fun c => ?_)
    · replace h := h.1 c
      refine q_iconst (v := (-1)) (dx D_m_lights 52 rfl) (by decide) ?_
      refine e_iload (dx D_m_lights 53 rfl) rfl ?_
      refine e_if_eq (tgt := 104) (dx D_m_lights 54 rfl) (by decide) (fun c => ?_) (fun c => ?_)
      · replace h := h.1 c
        refine q_iconst (v := (-1)) (dx D_m_lights 59 rfl) (by decide) ?_
        refine e_callVi (rest := []) [.int (g1 34 15), .int (x2 / 8), .int (x2 - x2 / 8 * 8), .int (-1), .int (-1)] (dx D_m_lights 60 rfl) ln_m_lights_234 rfl rfl rfl (Nat.le_of_ble_eq_true rfl) h (fun r11 g10 h => ?_)
        refine q_istore (L' := [some (.ref 34), some (.int x1), some (.int x2), some (.int x3), some (.int x4), some (.int x5), some (.int r11)]) (dx D_m_lights 61 rfl) (by decide) rfl ?_
        refine e_iload_n (dx D_m_lights 62 rfl) rfl ?_
        refine e_iload (dx D_m_lights 63 rfl) rfl ?_
        refine q_iconst (v := (-1)) (dx D_m_lights 64 rfl) (by decide) ?_
        refine e_ixor (dx D_m_lights 65 rfl) ?_
        refine e_iand (dx D_m_lights 66 rfl) ?_
        refine e_if_ne (tgt := 123) (dx D_m_lights 67 rfl) (by decide) (fun c => ?_) (fun c => ?_)
        · replace h := h.2 c
          refine q_iconst (v := 0) (dx D_m_lights 70 rfl) (by decide) ?_
          exact e_iret (dx D_m_lights 71 rfl) rfl (by decide) ⟨_, rfl, h⟩
        · replace h := h.1 c
          refine q_iconst (v := 1) (dx D_m_lights 68 rfl) (by decide) ?_
          refine e_goto (tgt := 124) (dx D_m_lights 69 rfl) (by decide) ?_
          exact e_iret (dx D_m_lights 71 rfl) rfl (by decide) ⟨_, rfl, h⟩
      · replace h := h.2 c
        refine e_iload_n (dx D_m_lights 55 rfl) rfl ?_
        refine q_bipush (v := 8) (dx D_m_lights 56 rfl) (by decide) ?_
        refine e_irem (dx D_m_lights 57 rfl) (by decide) ?_
        refine e_goto (tgt := 105) (dx D_m_lights 58 rfl) (by decide) ?_
        refine e_callVi (rest := []) [.int (g1 34 15), .int (x2 / 8), .int (x2 - x2 / 8 * 8), .int (-1), .int (x3 - x3 / 8 * 8)] (dx D_m_lights 60 rfl) ln_m_lights_234 rfl rfl rfl (Nat.le_of_ble_eq_true rfl) h (fun r13 g12 h => ?_)
        refine q_istore (L' := [some (.ref 34), some (.int x1), some (.int x2), some (.int x3), some (.int x4), some (.int x5), some (.int r13)]) (dx D_m_lights 61 rfl) (by decide) rfl ?_
        refine e_iload_n (dx D_m_lights 62 rfl) rfl ?_
        refine e_iload (dx D_m_lights 63 rfl) rfl ?_
        refine q_iconst (v := (-1)) (dx D_m_lights 64 rfl) (by decide) ?_
        refine e_ixor (dx D_m_lights 65 rfl) ?_
        refine e_iand (dx D_m_lights 66 rfl) ?_
        refine e_if_ne (tgt := 123) (dx D_m_lights 67 rfl) (by decide) (fun c => ?_) (fun c => ?_)
        · replace h := h.2 c
          refine q_iconst (v := 0) (dx D_m_lights 70 rfl) (by decide) ?_
          exact e_iret (dx D_m_lights 71 rfl) rfl (by decide) ⟨_, rfl, h⟩
        · replace h := h.1 c
          refine q_iconst (v := 1) (dx D_m_lights 68 rfl) (by decide) ?_
          refine e_goto (tgt := 124) (dx D_m_lights 69 rfl) (by decide) ?_
          exact e_iret (dx D_m_lights 71 rfl) rfl (by decide) ⟨_, rfl, h⟩
    · replace h := h.2 c
      refine e_iload_n (dx D_m_lights 48 rfl) rfl ?_
      refine q_bipush (v := 8) (dx D_m_lights 49 rfl) (by decide) ?_
      refine e_idiv (dx D_m_lights 50 rfl) (by decide) ?_
      refine e_goto (tgt := 92) (dx D_m_lights 51 rfl) (by decide) ?_
      refine e_iload (dx D_m_lights 53 rfl) rfl ?_
      refine e_if_eq (tgt := 104) (dx D_m_lights 54 rfl) (by decide) (fun c => ?_) (fun c => ?_)
      · replace h := h.1 c
        refine q_iconst (v := (-1)) (dx D_m_lights 59 rfl) (by decide) ?_
        refine e_callVi (rest := []) [.int (g1 34 15), .int (x2 / 8), .int (x2 - x2 / 8 * 8), .int (x3 / 8), .int (-1)] (dx D_m_lights 60 rfl) ln_m_lights_234 rfl rfl rfl (Nat.le_of_ble_eq_true rfl) h (fun r15 g14 h => ?_)
        refine q_istore (L' := [some (.ref 34), some (.int x1), some (.int x2), some (.int x3), some (.int x4), some (.int x5), some (.int r15)]) (dx D_m_lights 61 rfl) (by decide) rfl ?_
        refine e_iload_n (dx D_m_lights 62 rfl) rfl ?_
        refine e_iload (dx D_m_lights 63 rfl) rfl ?_
        refine q_iconst (v := (-1)) (dx D_m_lights 64 rfl) (by decide) ?_
        refine e_ixor (dx D_m_lights 65 rfl) ?_
        refine e_iand (dx D_m_lights 66 rfl) ?_
        refine e_if_ne (tgt := 123) (dx D_m_lights 67 rfl) (by decide) (fun c => ?_) (fun c => ?_)
        · replace h := h.2 c
          refine q_iconst (v := 0) (dx D_m_lights 70 rfl) (by decide) ?_
          exact e_iret (dx D_m_lights 71 rfl) rfl (by decide) ⟨_, rfl, h⟩
        · replace h := h.1 c
          refine q_iconst (v := 1) (dx D_m_lights 68 rfl) (by decide) ?_
          refine e_goto (tgt := 124) (dx D_m_lights 69 rfl) (by decide) ?_
          exact e_iret (dx D_m_lights 71 rfl) rfl (by decide) ⟨_, rfl, h⟩
      · replace h := h.2 c
        refine e_iload_n (dx D_m_lights 55 rfl) rfl ?_
        refine q_bipush (v := 8) (dx D_m_lights 56 rfl) (by decide) ?_
        refine e_irem (dx D_m_lights 57 rfl) (by decide) ?_
        refine e_goto (tgt := 105) (dx D_m_lights 58 rfl) (by decide) ?_
        refine e_callVi (rest := []) [.int (g1 34 15), .int (x2 / 8), .int (x2 - x2 / 8 * 8), .int (x3 / 8), .int (x3 - x3 / 8 * 8)] (dx D_m_lights 60 rfl) ln_m_lights_234 rfl rfl rfl (Nat.le_of_ble_eq_true rfl) h (fun r17 g16 h => ?_)
        refine q_istore (L' := [some (.ref 34), some (.int x1), some (.int x2), some (.int x3), some (.int x4), some (.int x5), some (.int r17)]) (dx D_m_lights 61 rfl) (by decide) rfl ?_
        refine e_iload_n (dx D_m_lights 62 rfl) rfl ?_
        refine e_iload (dx D_m_lights 63 rfl) rfl ?_
        refine q_iconst (v := (-1)) (dx D_m_lights 64 rfl) (by decide) ?_
        refine e_ixor (dx D_m_lights 65 rfl) ?_
        refine e_iand (dx D_m_lights 66 rfl) ?_
        refine e_if_ne (tgt := 123) (dx D_m_lights 67 rfl) (by decide) (fun c => ?_) (fun c => ?_)
        · replace h := h.2 c
          refine q_iconst (v := 0) (dx D_m_lights 70 rfl) (by decide) ?_
          exact e_iret (dx D_m_lights 71 rfl) rfl (by decide) ⟨_, rfl, h⟩
        · replace h := h.1 c
          refine q_iconst (v := 1) (dx D_m_lights 68 rfl) (by decide) ?_
          refine e_goto (tgt := 124) (dx D_m_lights 69 rfl) (by decide) ?_
          exact e_iret (dx D_m_lights 71 rfl) rfl (by decide) ⟨_, rfl, h⟩
abbrev Cm_findLit (x1 : Int32) (g : Sg) (Q : Sg → Prop) : Prop := Cv Mm_findLit [.ref 34, .int x1] g Q
abbrev Hm_findLit_2 (x1 : Int32) (x2 : Int32) (g : Sg) (Q : Sg → Prop) : Prop := Hv Mm_findLit 2 [some (.ref 34), some (.int x1), some (.int x2), none, none] [] g Q
abbrev Hm_findLit_55 (x1 : Int32) (x2 : Int32) (x3 : Int32) (g : Sg) (Q : Sg → Prop) : Prop := Hv Mm_findLit 55 [some (.ref 34), some (.int x1), some (.int x2), some (.int x3), none] [] g Q
abbrev Hm_findLit_110 (x1 : Int32) (x2 : Int32) (x3 : Int32) (g : Sg) (Q : Sg → Prop) : Prop := Hv Mm_findLit 110 [some (.ref 34), some (.int x1), some (.int x2), some (.int x3), none] [] g Q
abbrev Hm_findLit_123 (x1 : Int32) (x2 : Int32) (x3 : Int32) (x4 : Int32) (g : Sg) (Q : Sg → Prop) : Prop := Hv Mm_findLit 123 [some (.ref 34), some (.int x1), some (.int x2), some (.int x3), some (.int x4)] [] g Q
set_option maxRecDepth 20000 in
theorem Vm_findLit {x1 : Int32} {g : Sg} {Q : Sg → Prop} (h : Hm_findLit_2 x1 0 g Q) : Cm_findLit x1 g Q := by
  refine Cl.of 3 pl_X9 rfl ?_
  refine q_iconst (v := 0) (dx D_m_findLit 0 rfl) (by decide) ?_
  refine q_istore_n (L' := [some (.ref 34), some (.int x1), some (.int 0), none, none]) (dx D_m_findLit 1 rfl) (by decide) rfl ?_
  exact h
set_option maxRecDepth 20000 in
theorem Vm_findLit_2 {x1 : Int32} {x2 : Int32} {g : Sg} {Q : Sg → Prop} (h : ((3 ≤ x2 → Cm_burnsNow 0 g (fun r2 g1 => (((x1 &&& (r2 ^^^ (-1))) = 0 → Hm_findLit_55 x1 0 0 (sgU g1 50 0 0) Q) ∧ (¬ (x1 &&& (r2 ^^^ (-1))) = 0 → Hm_findLit_55 x1 1 0 (sgU g1 50 0 (-1)) Q)))) ∧ (¬ 3 ≤ x2 → vp_in x2 3 ∧ Hm_findLit_2 x1 (x2 + 1) (sgU g 50 (x2).toNatClampNeg (-1)) Q))) : Hm_findLit_2 x1 x2 g Q := by
  refine e_iload_n (dx D_m_findLit 2 rfl) rfl ?_
  refine q_iconst (v := 3) (dx D_m_findLit 3 rfl) (by decide) ?_
  refine e_icmp_ge (tgt := 20) (dx D_m_findLit 4 rfl) (by decide) (fun c => ?_) (fun c => ?_)
  · replace h := h.1 c
    refine e_iload_n (dx D_m_findLit 12 rfl) rfl ?_
    refine e_aload_n (dx D_m_findLit 13 rfl) rfl ?_
    refine q_iconst (v := 0) (dx D_m_findLit 14 rfl) (by decide) ?_
    refine e_callVi (rest := [.int x1]) [.int 0] (dx D_m_findLit 15 rfl) ln_m_findLit_238 rfl rfl rfl (Nat.le_of_ble_eq_true rfl) h (fun r2 g1 h => ?_)
    refine q_iconst (v := (-1)) (dx D_m_findLit 16 rfl) (by decide) ?_
    refine e_ixor (dx D_m_findLit 17 rfl) ?_
    refine e_iand (dx D_m_findLit 18 rfl) ?_
    refine e_if_eq (tgt := 36) (dx D_m_findLit 19 rfl) (by decide) (fun c => ?_) (fun c => ?_)
    · replace h := h.1 c
      refine q_iconst (v := 0) (dx D_m_findLit 22 rfl) (by decide) ?_
      refine q_istore_n (L' := [some (.ref 34), some (.int x1), some (.int 0), none, none]) (dx D_m_findLit 23 rfl) (by decide) rfl ?_
      refine e_aload_n (dx D_m_findLit 24 rfl) rfl ?_
      refine e_getR (dx D_m_findLit 25 rfl) fl_RX9_55 rfl rfl ?_
      refine q_iconst (v := 0) (dx D_m_findLit 26 rfl) (by decide) ?_
      refine e_iload_n (dx D_m_findLit 27 rfl) rfl ?_
      refine e_if_eq (tgt := 51) (dx D_m_findLit 28 rfl) (by decide) (fun c => ?_) (fun c => ?_)
      · skip
        refine q_iconst (v := 0) (dx D_m_findLit 31 rfl) (by decide) ?_
        refine e_iast (dx D_m_findLit 32 rfl) rfl (by unfold vp_in; decide) ?_
        refine q_iconst (v := 0) (dx D_m_findLit 33 rfl) (by decide) ?_
        refine q_istore_n (L' := [some (.ref 34), some (.int x1), some (.int 0), some (.int 0), none]) (dx D_m_findLit 34 rfl) (by decide) rfl ?_
        exact h
      · exact absurd c (by decide)
    · replace h := h.2 c
      refine q_iconst (v := 1) (dx D_m_findLit 20 rfl) (by decide) ?_
      refine e_goto (tgt := 37) (dx D_m_findLit 21 rfl) (by decide) ?_
      refine q_istore_n (L' := [some (.ref 34), some (.int x1), some (.int 1), none, none]) (dx D_m_findLit 23 rfl) (by decide) rfl ?_
      refine e_aload_n (dx D_m_findLit 24 rfl) rfl ?_
      refine e_getR (dx D_m_findLit 25 rfl) fl_RX9_55 rfl rfl ?_
      refine q_iconst (v := 0) (dx D_m_findLit 26 rfl) (by decide) ?_
      refine e_iload_n (dx D_m_findLit 27 rfl) rfl ?_
      refine e_if_eq (tgt := 51) (dx D_m_findLit 28 rfl) (by decide) (fun c => ?_) (fun c => ?_)
      · exact absurd c (by decide)
      · skip
        refine q_iconst (v := (-1)) (dx D_m_findLit 29 rfl) (by decide) ?_
        refine e_goto (tgt := 52) (dx D_m_findLit 30 rfl) (by decide) ?_
        refine e_iast (dx D_m_findLit 32 rfl) rfl (by unfold vp_in; decide) ?_
        refine q_iconst (v := 0) (dx D_m_findLit 33 rfl) (by decide) ?_
        refine q_istore_n (L' := [some (.ref 34), some (.int x1), some (.int 1), some (.int 0), none]) (dx D_m_findLit 34 rfl) (by decide) rfl ?_
        exact h
  · replace h := h.2 c
    refine e_aload_n (dx D_m_findLit 5 rfl) rfl ?_
    refine e_getR (dx D_m_findLit 6 rfl) fl_RX9_55 rfl rfl ?_
    refine e_iload_n (dx D_m_findLit 7 rfl) rfl ?_
    refine q_iconst (v := (-1)) (dx D_m_findLit 8 rfl) (by decide) ?_
    obtain ⟨hb3, h⟩ := h
    refine e_iast (dx D_m_findLit 9 rfl) rfl hb3 ?_
    refine q_iinc (d := 1) (L' := [some (.ref 34), some (.int x1), some (.int (x2 + 1)), none, none]) (dx D_m_findLit 10 rfl) rfl (by decide) (by decide) rfl ?_
    refine e_goto (tgt := 2) (dx D_m_findLit 11 rfl) (by decide) ?_
    exact h
set_option maxRecDepth 20000 in
theorem Vm_findLit_55 {x1 : Int32} {x2 : Int32} {x3 : Int32} {g : Sg} {Q : Sg → Prop} (h : ((64 ≤ x3 → Hm_findLit_110 x1 x2 0 g Q) ∧ (¬ 64 ≤ x3 → ((x2 = 0 → Hm_findLit_110 x1 x2 0 g Q) ∧ (¬ x2 = 0 → (((x3 / 8) = (x3 - x3 / 8 * 8) → Hm_findLit_55 x1 x2 (x3 + 1) g Q) ∧ (¬ (x3 / 8) = (x3 - x3 / 8 * 8) → Cm_lights x1 x3 (-1) g (fun r2 g1 => ((r2 = 0 → Hm_findLit_55 x1 x2 (x3 + 1) g1 Q) ∧ (¬ r2 = 0 → Hm_findLit_55 x1 0 (x3 + 1) (sgU (sgU g1 50 0 1) 50 1 x3) Q)))))))))) : Hm_findLit_55 x1 x2 x3 g Q := by
  refine e_iload_n (dx D_m_findLit 35 rfl) rfl ?_
  refine q_bipush (v := 64) (dx D_m_findLit 36 rfl) (by decide) ?_
  refine e_icmp_ge (tgt := 108) (dx D_m_findLit 37 rfl) (by decide) (fun c => ?_) (fun c => ?_)
  · replace h := h.1 c
    refine q_iconst (v := 0) (dx D_m_findLit 67 rfl) (by decide) ?_
    refine q_istore_n (L' := [some (.ref 34), some (.int x1), some (.int x2), some (.int 0), none]) (dx D_m_findLit 68 rfl) (by decide) rfl ?_
    exact h
  · replace h := h.2 c
    refine e_iload_n (dx D_m_findLit 38 rfl) rfl ?_
    refine e_if_eq (tgt := 108) (dx D_m_findLit 39 rfl) (by decide) (fun c => ?_) (fun c => ?_)
    · replace h := h.1 c
      refine q_iconst (v := 0) (dx D_m_findLit 67 rfl) (by decide) ?_
      refine q_istore_n (L' := [some (.ref 34), some (.int x1), some (.int x2), some (.int 0), none]) (dx D_m_findLit 68 rfl) (by decide) rfl ?_
      exact h
    · replace h := h.2 c
      refine e_iload_n (dx D_m_findLit 40 rfl) rfl ?_
      refine q_bipush (v := 8) (dx D_m_findLit 41 rfl) (by decide) ?_
      refine e_idiv (dx D_m_findLit 42 rfl) (by decide) ?_
      refine e_iload_n (dx D_m_findLit 43 rfl) rfl ?_
      refine q_bipush (v := 8) (dx D_m_findLit 44 rfl) (by decide) ?_
      refine e_irem (dx D_m_findLit 45 rfl) (by decide) ?_
      refine e_icmp_eq (tgt := 102) (dx D_m_findLit 46 rfl) (by decide) (fun c => ?_) (fun c => ?_)
      · replace h := h.1 c
        refine q_iinc (d := 1) (L' := [some (.ref 34), some (.int x1), some (.int x2), some (.int (x3 + 1)), none]) (dx D_m_findLit 65 rfl) rfl (by decide) (by decide) rfl ?_
        refine e_goto (tgt := 55) (dx D_m_findLit 66 rfl) (by decide) ?_
        exact h
      · replace h := h.2 c
        refine e_aload_n (dx D_m_findLit 47 rfl) rfl ?_
        refine e_iload_n (dx D_m_findLit 48 rfl) rfl ?_
        refine e_iload_n (dx D_m_findLit 49 rfl) rfl ?_
        refine q_iconst (v := (-1)) (dx D_m_findLit 50 rfl) (by decide) ?_
        refine e_callVi (rest := []) [.int x1, .int x3, .int (-1)] (dx D_m_findLit 51 rfl) ln_m_findLit_241 rfl rfl rfl (Nat.le_of_ble_eq_true rfl) h (fun r2 g1 h => ?_)
        refine e_if_eq (tgt := 102) (dx D_m_findLit 52 rfl) (by decide) (fun c => ?_) (fun c => ?_)
        · replace h := h.1 c
          refine q_iinc (d := 1) (L' := [some (.ref 34), some (.int x1), some (.int x2), some (.int (x3 + 1)), none]) (dx D_m_findLit 65 rfl) rfl (by decide) (by decide) rfl ?_
          refine e_goto (tgt := 55) (dx D_m_findLit 66 rfl) (by decide) ?_
          exact h
        · replace h := h.2 c
          refine e_aload_n (dx D_m_findLit 53 rfl) rfl ?_
          refine e_getR (dx D_m_findLit 54 rfl) fl_RX9_55 rfl rfl ?_
          refine q_iconst (v := 0) (dx D_m_findLit 55 rfl) (by decide) ?_
          refine q_iconst (v := 1) (dx D_m_findLit 56 rfl) (by decide) ?_
          refine e_iast (dx D_m_findLit 57 rfl) rfl (by unfold vp_in; decide) ?_
          refine e_aload_n (dx D_m_findLit 58 rfl) rfl ?_
          refine e_getR (dx D_m_findLit 59 rfl) fl_RX9_55 rfl rfl ?_
          refine q_iconst (v := 1) (dx D_m_findLit 60 rfl) (by decide) ?_
          refine e_iload_n (dx D_m_findLit 61 rfl) rfl ?_
          refine e_iast (dx D_m_findLit 62 rfl) rfl (by unfold vp_in; decide) ?_
          refine q_iconst (v := 0) (dx D_m_findLit 63 rfl) (by decide) ?_
          refine q_istore_n (L' := [some (.ref 34), some (.int x1), some (.int 0), some (.int x3), none]) (dx D_m_findLit 64 rfl) (by decide) rfl ?_
          refine q_iinc (d := 1) (L' := [some (.ref 34), some (.int x1), some (.int 0), some (.int (x3 + 1)), none]) (dx D_m_findLit 65 rfl) rfl (by decide) (by decide) rfl ?_
          refine e_goto (tgt := 55) (dx D_m_findLit 66 rfl) (by decide) ?_
          exact h
set_option maxRecDepth 20000 in
theorem Vm_findLit_110 {x1 : Int32} {x2 : Int32} {x3 : Int32} {g : Sg} {Q : Sg → Prop} (h : ((64 ≤ x3 → Q g) ∧ (¬ 64 ≤ x3 → ((x2 = 0 → Q g) ∧ (¬ x2 = 0 → Hm_findLit_123 x1 x2 x3 0 g Q))))) : Hm_findLit_110 x1 x2 x3 g Q := by
  refine e_iload_n (dx D_m_findLit 69 rfl) rfl ?_
  refine q_bipush (v := 64) (dx D_m_findLit 70 rfl) (by decide) ?_
  refine e_icmp_ge (tgt := 205) (dx D_m_findLit 71 rfl) (by decide) (fun c => ?_) (fun c => ?_)
  · replace h := h.1 c
    exact e_vret (dx D_m_findLit 122 rfl) rfl ⟨rfl, h⟩
  · replace h := h.2 c
    refine e_iload_n (dx D_m_findLit 72 rfl) rfl ?_
    refine e_if_eq (tgt := 205) (dx D_m_findLit 73 rfl) (by decide) (fun c => ?_) (fun c => ?_)
    · replace h := h.1 c
      exact e_vret (dx D_m_findLit 122 rfl) rfl ⟨rfl, h⟩
    · replace h := h.2 c
      refine q_iconst (v := 0) (dx D_m_findLit 74 rfl) (by decide) ?_
      refine q_istore (L' := [some (.ref 34), some (.int x1), some (.int x2), some (.int x3), some (.int 0)]) (dx D_m_findLit 75 rfl) (by decide) rfl ?_
      exact h
set_option maxRecDepth 20000 in
theorem Vm_findLit_123 {x1 : Int32} {x2 : Int32} {x3 : Int32} {x4 : Int32} {g : Sg} {Q : Sg → Prop} (h : ((64 ≤ x4 → Hm_findLit_110 x1 x2 (x3 + 1) g Q) ∧ (¬ 64 ≤ x4 → ((x2 = 0 → Hm_findLit_110 x1 x2 (x3 + 1) g Q) ∧ (¬ x2 = 0 → (((x3 / 8) = (x3 - x3 / 8 * 8) → Hm_findLit_110 x1 x2 (x3 + 1) g Q) ∧ (¬ (x3 / 8) = (x3 - x3 / 8 * 8) → (((x4 / 8) = (x4 - x4 / 8 * 8) → Hm_findLit_123 x1 x2 x3 (x4 + 1) g Q) ∧ (¬ (x4 / 8) = (x4 - x4 / 8 * 8) → Cm_lights x1 x3 x4 g (fun r2 g1 => ((r2 = 0 → Hm_findLit_123 x1 x2 x3 (x4 + 1) g1 Q) ∧ (¬ r2 = 0 → Hm_findLit_123 x1 0 x3 (x4 + 1) (sgU (sgU (sgU g1 50 0 2) 50 1 x3) 50 2 x4) Q)))))))))))) : Hm_findLit_123 x1 x2 x3 x4 g Q := by
  refine e_iload (dx D_m_findLit 76 rfl) rfl ?_
  refine q_bipush (v := 64) (dx D_m_findLit 77 rfl) (by decide) ?_
  refine e_icmp_ge (tgt := 199) (dx D_m_findLit 78 rfl) (by decide) (fun c => ?_) (fun c => ?_)
  · replace h := h.1 c
    refine q_iinc (d := 1) (L' := [some (.ref 34), some (.int x1), some (.int x2), some (.int (x3 + 1)), some (.int x4)]) (dx D_m_findLit 120 rfl) rfl (by decide) (by decide) rfl ?_
    refine e_goto (tgt := 110) (dx D_m_findLit 121 rfl) (by decide) ?_
    exact Wp.mask [true, true, true, true, false] h
  · replace h := h.2 c
    refine e_iload_n (dx D_m_findLit 79 rfl) rfl ?_
    refine e_if_eq (tgt := 199) (dx D_m_findLit 80 rfl) (by decide) (fun c => ?_) (fun c => ?_)
    · replace h := h.1 c
      refine q_iinc (d := 1) (L' := [some (.ref 34), some (.int x1), some (.int x2), some (.int (x3 + 1)), some (.int x4)]) (dx D_m_findLit 120 rfl) rfl (by decide) (by decide) rfl ?_
      refine e_goto (tgt := 110) (dx D_m_findLit 121 rfl) (by decide) ?_
      exact Wp.mask [true, true, true, true, false] h
    · replace h := h.2 c
      refine e_iload_n (dx D_m_findLit 81 rfl) rfl ?_
      refine q_bipush (v := 8) (dx D_m_findLit 82 rfl) (by decide) ?_
      refine e_idiv (dx D_m_findLit 83 rfl) (by decide) ?_
      refine e_iload_n (dx D_m_findLit 84 rfl) rfl ?_
      refine q_bipush (v := 8) (dx D_m_findLit 85 rfl) (by decide) ?_
      refine e_irem (dx D_m_findLit 86 rfl) (by decide) ?_
      refine e_icmp_eq (tgt := 199) (dx D_m_findLit 87 rfl) (by decide) (fun c => ?_) (fun c => ?_)
      · replace h := h.1 c
        refine q_iinc (d := 1) (L' := [some (.ref 34), some (.int x1), some (.int x2), some (.int (x3 + 1)), some (.int x4)]) (dx D_m_findLit 120 rfl) rfl (by decide) (by decide) rfl ?_
        refine e_goto (tgt := 110) (dx D_m_findLit 121 rfl) (by decide) ?_
        exact Wp.mask [true, true, true, true, false] h
      · replace h := h.2 c
        refine e_iload (dx D_m_findLit 88 rfl) rfl ?_
        refine q_bipush (v := 8) (dx D_m_findLit 89 rfl) (by decide) ?_
        refine e_idiv (dx D_m_findLit 90 rfl) (by decide) ?_
        refine e_iload (dx D_m_findLit 91 rfl) rfl ?_
        refine q_bipush (v := 8) (dx D_m_findLit 92 rfl) (by decide) ?_
        refine e_irem (dx D_m_findLit 93 rfl) (by decide) ?_
        refine e_icmp_eq (tgt := 193) (dx D_m_findLit 94 rfl) (by decide) (fun c => ?_) (fun c => ?_)
        · replace h := h.1 c
          refine q_iinc (d := 1) (L' := [some (.ref 34), some (.int x1), some (.int x2), some (.int x3), some (.int (x4 + 1))]) (dx D_m_findLit 118 rfl) rfl (by decide) (by decide) rfl ?_
          refine e_goto (tgt := 123) (dx D_m_findLit 119 rfl) (by decide) ?_
          exact h
        · replace h := h.2 c
          refine e_aload_n (dx D_m_findLit 95 rfl) rfl ?_
          refine e_iload_n (dx D_m_findLit 96 rfl) rfl ?_
          refine e_iload_n (dx D_m_findLit 97 rfl) rfl ?_
          refine e_iload (dx D_m_findLit 98 rfl) rfl ?_
          refine e_callVi (rest := []) [.int x1, .int x3, .int x4] (dx D_m_findLit 99 rfl) ln_m_findLit_241 rfl rfl rfl (Nat.le_of_ble_eq_true rfl) h (fun r2 g1 h => ?_)
          refine e_if_eq (tgt := 193) (dx D_m_findLit 100 rfl) (by decide) (fun c => ?_) (fun c => ?_)
          · replace h := h.1 c
            refine q_iinc (d := 1) (L' := [some (.ref 34), some (.int x1), some (.int x2), some (.int x3), some (.int (x4 + 1))]) (dx D_m_findLit 118 rfl) rfl (by decide) (by decide) rfl ?_
            refine e_goto (tgt := 123) (dx D_m_findLit 119 rfl) (by decide) ?_
            exact h
          · replace h := h.2 c
            refine e_aload_n (dx D_m_findLit 101 rfl) rfl ?_
            refine e_getR (dx D_m_findLit 102 rfl) fl_RX9_55 rfl rfl ?_
            refine q_iconst (v := 0) (dx D_m_findLit 103 rfl) (by decide) ?_
            refine q_iconst (v := 2) (dx D_m_findLit 104 rfl) (by decide) ?_
            refine e_iast (dx D_m_findLit 105 rfl) rfl (by unfold vp_in; decide) ?_
            refine e_aload_n (dx D_m_findLit 106 rfl) rfl ?_
            refine e_getR (dx D_m_findLit 107 rfl) fl_RX9_55 rfl rfl ?_
            refine q_iconst (v := 1) (dx D_m_findLit 108 rfl) (by decide) ?_
            refine e_iload_n (dx D_m_findLit 109 rfl) rfl ?_
            refine e_iast (dx D_m_findLit 110 rfl) rfl (by unfold vp_in; decide) ?_
            refine e_aload_n (dx D_m_findLit 111 rfl) rfl ?_
            refine e_getR (dx D_m_findLit 112 rfl) fl_RX9_55 rfl rfl ?_
            refine q_iconst (v := 2) (dx D_m_findLit 113 rfl) (by decide) ?_
            refine e_iload (dx D_m_findLit 114 rfl) rfl ?_
            refine e_iast (dx D_m_findLit 115 rfl) rfl (by unfold vp_in; decide) ?_
            refine q_iconst (v := 0) (dx D_m_findLit 116 rfl) (by decide) ?_
            refine q_istore_n (L' := [some (.ref 34), some (.int x1), some (.int 0), some (.int x3), some (.int x4)]) (dx D_m_findLit 117 rfl) (by decide) rfl ?_
            refine q_iinc (d := 1) (L' := [some (.ref 34), some (.int x1), some (.int 0), some (.int x3), some (.int (x4 + 1))]) (dx D_m_findLit 118 rfl) rfl (by decide) (by decide) rfl ?_
            refine e_goto (tgt := 123) (dx D_m_findLit 119 rfl) (by decide) ?_
            exact h
abbrev Cm_lit (x1 : Int32) (x2 : Int32) (g : Sg) (Q : Int32 → Sg → Prop) : Prop := Ci Mm_lit [.ref 34, .int x1, .int x2] g Q
set_option maxRecDepth 20000 in
theorem Vm_lit {x1 : Int32} {x2 : Int32} {g : Sg} {Q : Int32 → Sg → Prop} (h : (((0 ≤ x1 ∧ x1 ≤ 255) → (((0 ≤ x2 ∧ x2 ≤ 2) → Cm_goesAll g (fun g1 => Cm_findLit x1 g1 (fun g2 => vp_in x2 3 ∧ Q (g2 50 (x2).toNatClampNeg) g2))) ∧ (¬ (0 ≤ x2 ∧ x2 ≤ 2) → Q (-2) g))) ∧ (¬ (0 ≤ x1 ∧ x1 ≤ 255) → Q (-2) g))) : Cm_lit x1 x2 g Q := by
  refine Cl.of 0 pl_X9 rfl ?_
  refine e_iload_n (dx D_m_lit 0 rfl) rfl ?_
  refine e_i2l (dx D_m_lit 1 rfl) ?_
  refine q_lconst (v := 0) (dx D_m_lit 2 rfl) (by decide) ?_
  refine e_ldc2 (v := 255) (dx D_m_lit 3 rfl) k1089 ?_
  refine e_callSi (Q1 := fun r g' => bP (0 ≤ x1 ∧ x1 ≤ 255) = r ∧ g = g') (rest := []) [.long (Int32.toInt64 x1), .long 0, .long 255] (dx D_m_lit 4 rfl) ln_m_lit_70 rfl rfl (Nat.le_of_ble_eq_true rfl) (Im_in  ⟨(in32 (a := x1) (b := 0) (c := 255) rfl (by decide) (by decide)).symm, rfl⟩) (fun r g' hh => ?_)
  obtain ⟨rfl, rfl⟩ := hh
  refine e_if_eq (tgt := 24) (dx D_m_lit 5 rfl) (by decide) (fun c => ?_) (fun c => ?_)
  · replace h := h.2 (bP_z c)
    refine q_bipush (v := (-2)) (dx D_m_lit 12 rfl) (by decide) ?_
    exact e_iret (dx D_m_lit 13 rfl) rfl rfl ⟨_, rfl, h⟩
  · replace h := h.1 (bP_n c)
    refine e_iload_n (dx D_m_lit 6 rfl) rfl ?_
    refine e_i2l (dx D_m_lit 7 rfl) ?_
    refine q_lconst (v := 0) (dx D_m_lit 8 rfl) (by decide) ?_
    refine e_ldc2 (v := 2) (dx D_m_lit 9 rfl) k1056 ?_
    refine e_callSi (Q1 := fun r g' => bP (0 ≤ x2 ∧ x2 ≤ 2) = r ∧ g = g') (rest := []) [.long (Int32.toInt64 x2), .long 0, .long 2] (dx D_m_lit 10 rfl) ln_m_lit_70 rfl rfl (Nat.le_of_ble_eq_true rfl) (Im_in  ⟨(in32 (a := x2) (b := 0) (c := 2) rfl (by decide) (by decide)).symm, rfl⟩) (fun r g' hh => ?_)
    obtain ⟨rfl, rfl⟩ := hh
    refine e_if_ne (tgt := 27) (dx D_m_lit 11 rfl) (by decide) (fun c => ?_) (fun c => ?_)
    · replace h := h.1 (bP_n c)
      refine e_aload_n (dx D_m_lit 14 rfl) rfl ?_
      refine e_callVv (rest := []) [] (dx D_m_lit 15 rfl) ln_m_lit_186 rfl rfl rfl (Nat.le_of_ble_eq_true rfl) h (fun g1 h => ?_)
      refine e_aload_n (dx D_m_lit 16 rfl) rfl ?_
      refine e_iload_n (dx D_m_lit 17 rfl) rfl ?_
      refine e_callVv (rest := []) [.int x1] (dx D_m_lit 18 rfl) ln_m_lit_245 rfl rfl rfl (Nat.le_of_ble_eq_true rfl) h (fun g2 h => ?_)
      refine e_aload_n (dx D_m_lit 19 rfl) rfl ?_
      refine e_getR (dx D_m_lit 20 rfl) fl_RX9_55 rfl rfl ?_
      refine e_iload_n (dx D_m_lit 21 rfl) rfl ?_
      obtain ⟨hb3, h⟩ := h
      refine e_iald (dx D_m_lit 22 rfl) rfl hb3 ?_
      exact e_iret (dx D_m_lit 23 rfl) rfl rfl ⟨_, rfl, h⟩
    · replace h := h.2 (bP_z c)
      refine q_bipush (v := (-2)) (dx D_m_lit 12 rfl) (by decide) ?_
      exact e_iret (dx D_m_lit 13 rfl) rfl rfl ⟨_, rfl, h⟩
abbrev Cm_outAt (x1 : Int32) (g : Sg) (Q : Int32 → Sg → Prop) : Prop := Ci Mm_outAt [.ref 34, .int x1] g Q
set_option maxRecDepth 20000 in
theorem Vm_outAt {x1 : Int32} {g : Sg} {Q : Int32 → Sg → Prop} (h : (((x1 - x1 / 2 * 2) = 0 → vp_in ((4 * (x1 / 2)) + 1) 64 ∧ Q (g 40 ((4 * (x1 / 2)) + 1).toNatClampNeg) g) ∧ (¬ (x1 - x1 / 2 * 2) = 0 → vp_in ((4 * (x1 / 2)) + 0) 64 ∧ Q (g 40 ((4 * (x1 / 2)) + 0).toNatClampNeg) g))) : Cm_outAt x1 g Q := by
  refine Cl.of 0 pl_X9 rfl ?_
  refine e_aload_n (dx D_m_outAt 0 rfl) rfl ?_
  refine e_getR (dx D_m_outAt 1 rfl) fl_RX9_25 rfl rfl ?_
  refine q_iconst (v := 4) (dx D_m_outAt 2 rfl) (by decide) ?_
  refine e_iload_n (dx D_m_outAt 3 rfl) rfl ?_
  refine q_iconst (v := 2) (dx D_m_outAt 4 rfl) (by decide) ?_
  refine e_idiv (dx D_m_outAt 5 rfl) (by decide) ?_
  refine e_imul (dx D_m_outAt 6 rfl) ?_
  refine e_iload_n (dx D_m_outAt 7 rfl) rfl ?_
  refine q_iconst (v := 2) (dx D_m_outAt 8 rfl) (by decide) ?_
  refine e_irem (dx D_m_outAt 9 rfl) (by decide) ?_
  refine e_if_ne (tgt := 19) (dx D_m_outAt 10 rfl) (by decide) (fun c => ?_) (fun c => ?_)
  · replace h := h.2 c
    refine q_iconst (v := 0) (dx D_m_outAt 13 rfl) (by decide) ?_
    refine e_iadd (dx D_m_outAt 14 rfl) ?_
    obtain ⟨hb1, h⟩ := h
    refine e_iald (dx D_m_outAt 15 rfl) rfl hb1 ?_
    exact e_iret (dx D_m_outAt 16 rfl) rfl rfl ⟨_, rfl, h⟩
  · replace h := h.1 c
    refine q_iconst (v := 1) (dx D_m_outAt 11 rfl) (by decide) ?_
    refine e_goto (tgt := 20) (dx D_m_outAt 12 rfl) (by decide) ?_
    refine e_iadd (dx D_m_outAt 14 rfl) ?_
    obtain ⟨hb2, h⟩ := h
    refine e_iald (dx D_m_outAt 15 rfl) rfl hb2 ?_
    exact e_iret (dx D_m_outAt 16 rfl) rfl rfl ⟨_, rfl, h⟩
abbrev Cm_inAt (x1 : Int32) (g : Sg) (Q : Int32 → Sg → Prop) : Prop := Ci Mm_inAt [.ref 34, .int x1] g Q
set_option maxRecDepth 20000 in
theorem Vm_inAt {x1 : Int32} {g : Sg} {Q : Int32 → Sg → Prop} (h : (((x1 - x1 / 2 * 2) = 0 → vp_in ((4 * (x1 / 2)) + 0) 64 ∧ Q (g 40 ((4 * (x1 / 2)) + 0).toNatClampNeg) g) ∧ (¬ (x1 - x1 / 2 * 2) = 0 → vp_in ((4 * (x1 / 2)) + 1) 64 ∧ Q (g 40 ((4 * (x1 / 2)) + 1).toNatClampNeg) g))) : Cm_inAt x1 g Q := by
  refine Cl.of 0 pl_X9 rfl ?_
  refine e_aload_n (dx D_m_inAt 0 rfl) rfl ?_
  refine e_getR (dx D_m_inAt 1 rfl) fl_RX9_25 rfl rfl ?_
  refine q_iconst (v := 4) (dx D_m_inAt 2 rfl) (by decide) ?_
  refine e_iload_n (dx D_m_inAt 3 rfl) rfl ?_
  refine q_iconst (v := 2) (dx D_m_inAt 4 rfl) (by decide) ?_
  refine e_idiv (dx D_m_inAt 5 rfl) (by decide) ?_
  refine e_imul (dx D_m_inAt 6 rfl) ?_
  refine e_iload_n (dx D_m_inAt 7 rfl) rfl ?_
  refine q_iconst (v := 2) (dx D_m_inAt 8 rfl) (by decide) ?_
  refine e_irem (dx D_m_inAt 9 rfl) (by decide) ?_
  refine e_if_ne (tgt := 19) (dx D_m_inAt 10 rfl) (by decide) (fun c => ?_) (fun c => ?_)
  · replace h := h.2 c
    refine q_iconst (v := 1) (dx D_m_inAt 13 rfl) (by decide) ?_
    refine e_iadd (dx D_m_inAt 14 rfl) ?_
    obtain ⟨hb1, h⟩ := h
    refine e_iald (dx D_m_inAt 15 rfl) rfl hb1 ?_
    exact e_iret (dx D_m_inAt 16 rfl) rfl rfl ⟨_, rfl, h⟩
  · replace h := h.1 c
    refine q_iconst (v := 0) (dx D_m_inAt 11 rfl) (by decide) ?_
    refine e_goto (tgt := 20) (dx D_m_inAt 12 rfl) (by decide) ?_
    refine e_iadd (dx D_m_inAt 14 rfl) ?_
    obtain ⟨hb2, h⟩ := h
    refine e_iald (dx D_m_inAt 15 rfl) rfl hb2 ?_
    exact e_iret (dx D_m_inAt 16 rfl) rfl rfl ⟨_, rfl, h⟩
abbrev Cm_walks (x1 : Int32) (x2 : Int32) (g : Sg) (Q : Sg → Prop) : Prop := Cv Mm_walks [.ref 34, .int x1, .int x2] g Q
abbrev Hm_walks_2 (x1 : Int32) (x2 : Int32) (x3 : Int32) (g : Sg) (Q : Sg → Prop) : Prop := Hv Mm_walks 2 [some (.ref 34), some (.int x1), some (.int x2), some (.int x3), none, none] [] g Q
abbrev Hm_walks_48 (x2 : Int32) (x3 : Int32) (g : Sg) (Q : Sg → Prop) : Prop := Hv Mm_walks 48 [some (.ref 34), none, some (.int x2), some (.int x3), none, none] [] g Q
abbrev Hm_walks_56 (x2 : Int32) (x3 : Int32) (x4 : Int32) (g : Sg) (Q : Sg → Prop) : Prop := Hv Mm_walks 56 [some (.ref 34), none, some (.int x2), some (.int x3), some (.int x4), none] [] g Q
abbrev Hm_walks_78 (x2 : Int32) (x3 : Int32) (x4 : Int32) (x5 : Int32) (g : Sg) (Q : Sg → Prop) : Prop := Hv Mm_walks 78 [some (.ref 34), none, some (.int x2), some (.int x3), some (.int x4), some (.int x5)] [] g Q
abbrev Hm_walks_160 (x2 : Int32) (x3 : Int32) (x4 : Int32) (g : Sg) (Q : Sg → Prop) : Prop := Hv Mm_walks 160 [some (.ref 34), none, some (.int x2), some (.int x3), some (.int x4), none] [] g Q
set_option maxRecDepth 20000 in
theorem Vm_walks {x1 : Int32} {x2 : Int32} {g : Sg} {Q : Sg → Prop} (h : Hm_walks_2 x1 x2 0 g Q) : Cm_walks x1 x2 g Q := by
  refine Cl.of 3 pl_X9 rfl ?_
  refine q_iconst (v := 0) (dx D_m_walks 0 rfl) (by decide) ?_
  refine q_istore_n (L' := [some (.ref 34), some (.int x1), some (.int x2), some (.int 0), none, none]) (dx D_m_walks 1 rfl) (by decide) rfl ?_
  exact h
set_option maxRecDepth 20000 in
theorem Vm_walks_2 {x1 : Int32} {x2 : Int32} {x3 : Int32} {g : Sg} {Q : Sg → Prop} (h : (((2 * (g 34 8)) ≤ x3 → Hm_walks_48 x2 1 g Q) ∧ (¬ (2 * (g 34 8)) ≤ x3 → (((¬ tbb (g 41 0) (x3 / 2) = true) → Cm_inAt x3 g (fun r3 g2 => ((r3 = x1 → vp_in x3 32 ∧ Hm_walks_2 x1 x2 (x3 + 1) (sgU g2 51 (x3).toNatClampNeg 1) Q) ∧ (¬ r3 = x1 → vp_in x3 32 ∧ Hm_walks_2 x1 x2 (x3 + 1) (sgU g2 51 (x3).toNatClampNeg 0) Q)))) ∧ (¬ (¬ tbb (g 41 0) (x3 / 2) = true) → vp_in x3 32 ∧ Hm_walks_2 x1 x2 (x3 + 1) (sgU g 51 (x3).toNatClampNeg 0) Q))))) : Hm_walks_2 x1 x2 x3 g Q := by
  refine e_iload_n (dx D_m_walks 2 rfl) rfl ?_
  refine q_iconst (v := 2) (dx D_m_walks 3 rfl) (by decide) ?_
  refine e_aload_n (dx D_m_walks 4 rfl) rfl ?_
  refine e_getI (dx D_m_walks 5 rfl) fl_RX9_104 rfl rfl ?_
  refine e_imul (dx D_m_walks 6 rfl) ?_
  refine e_icmp_ge (tgt := 46) (dx D_m_walks 7 rfl) (by decide) (fun c => ?_) (fun c => ?_)
  · replace h := h.1 c
    refine q_iconst (v := 1) (dx D_m_walks 26 rfl) (by decide) ?_
    refine q_istore_n (L' := [some (.ref 34), some (.int x1), some (.int x2), some (.int 1), none, none]) (dx D_m_walks 27 rfl) (by decide) rfl ?_
    exact Wp.mask [true, false, true, true, false, false] h
  · replace h := h.2 c
    refine e_aload_n (dx D_m_walks 8 rfl) rfl ?_
    refine e_getR (dx D_m_walks 9 rfl) fl_RX9_58 rfl rfl ?_
    refine e_iload_n (dx D_m_walks 10 rfl) rfl ?_
    refine e_aload_n (dx D_m_walks 11 rfl) rfl ?_
    refine e_iload_n (dx D_m_walks 12 rfl) rfl ?_
    refine e_callVi (Q1 := fun r g' => bP (¬ tbb (g 41 0) (x3 / 2) = true) = r ∧ g = g') (rest := [.int x3, .ref 51]) [.int x3] (dx D_m_walks 13 rfl) ln_m_walks_248 rfl rfl rfl (Nat.le_of_ble_eq_true rfl) (Im_goesThrough  ⟨rfl, rfl⟩) (fun r g' hh => ?_)
    obtain ⟨rfl, rfl⟩ := hh
    refine e_if_eq (tgt := 38) (dx D_m_walks 14 rfl) (by decide) (fun c => ?_) (fun c => ?_)
    · replace h := h.2 (bP_z c)
      refine q_iconst (v := 0) (dx D_m_walks 22 rfl) (by decide) ?_
      obtain ⟨hb1, h⟩ := h
      refine e_iast (dx D_m_walks 23 rfl) rfl hb1 ?_
      refine q_iinc (d := 1) (L' := [some (.ref 34), some (.int x1), some (.int x2), some (.int (x3 + 1)), none, none]) (dx D_m_walks 24 rfl) rfl (by decide) (by decide) rfl ?_
      refine e_goto (tgt := 2) (dx D_m_walks 25 rfl) (by decide) ?_
      exact h
    · replace h := h.1 (bP_n c)
      refine e_aload_n (dx D_m_walks 15 rfl) rfl ?_
      refine e_iload_n (dx D_m_walks 16 rfl) rfl ?_
      refine e_callVi (rest := [.int x3, .ref 51]) [.int x3] (dx D_m_walks 17 rfl) ln_m_walks_251 rfl rfl rfl (Nat.le_of_ble_eq_true rfl) h (fun r3 g2 h => ?_)
      refine e_iload_n (dx D_m_walks 18 rfl) rfl ?_
      refine e_icmp_ne (tgt := 38) (dx D_m_walks 19 rfl) (by decide) (fun c => ?_) (fun c => ?_)
      · replace h := h.2 c
        refine q_iconst (v := 0) (dx D_m_walks 22 rfl) (by decide) ?_
        obtain ⟨hb4, h⟩ := h
        refine e_iast (dx D_m_walks 23 rfl) rfl hb4 ?_
        refine q_iinc (d := 1) (L' := [some (.ref 34), some (.int x1), some (.int x2), some (.int (x3 + 1)), none, none]) (dx D_m_walks 24 rfl) rfl (by decide) (by decide) rfl ?_
        refine e_goto (tgt := 2) (dx D_m_walks 25 rfl) (by decide) ?_
        exact h
      · replace h := h.1 c
        refine q_iconst (v := 1) (dx D_m_walks 20 rfl) (by decide) ?_
        refine e_goto (tgt := 39) (dx D_m_walks 21 rfl) (by decide) ?_
        obtain ⟨hb5, h⟩ := h
        refine e_iast (dx D_m_walks 23 rfl) rfl hb5 ?_
        refine q_iinc (d := 1) (L' := [some (.ref 34), some (.int x1), some (.int x2), some (.int (x3 + 1)), none, none]) (dx D_m_walks 24 rfl) rfl (by decide) (by decide) rfl ?_
        refine e_goto (tgt := 2) (dx D_m_walks 25 rfl) (by decide) ?_
        exact h
set_option maxRecDepth 20000 in
theorem Vm_walks_48 {x2 : Int32} {x3 : Int32} {g : Sg} {Q : Sg → Prop} (h : ((x2 ≤ x3 → Q g) ∧ (¬ x2 ≤ x3 → Hm_walks_56 x2 x3 0 g Q))) : Hm_walks_48 x2 x3 g Q := by
  refine e_iload_n (dx D_m_walks 28 rfl) rfl ?_
  refine e_iload_n (dx D_m_walks 29 rfl) rfl ?_
  refine e_icmp_ge (tgt := 197) (dx D_m_walks 30 rfl) (by decide) (fun c => ?_) (fun c => ?_)
  · replace h := h.1 c
    exact e_vret (dx D_m_walks 107 rfl) rfl ⟨rfl, h⟩
  · replace h := h.2 c
    refine q_iconst (v := 0) (dx D_m_walks 31 rfl) (by decide) ?_
    refine q_istore (L' := [some (.ref 34), none, some (.int x2), some (.int x3), some (.int 0), none]) (dx D_m_walks 32 rfl) (by decide) rfl ?_
    exact h
set_option maxRecDepth 20000 in
theorem Vm_walks_56 {x2 : Int32} {x3 : Int32} {x4 : Int32} {g : Sg} {Q : Sg → Prop} (h : (((2 * (g 34 8)) ≤ x4 → Hm_walks_160 x2 x3 0 g Q) ∧ (¬ (2 * (g 34 8)) ≤ x4 → vp_in x4 32 ∧ Hm_walks_78 x2 x3 x4 0 (sgU g 52 (x4).toNatClampNeg 0) Q))) : Hm_walks_56 x2 x3 x4 g Q := by
  refine e_iload (dx D_m_walks 33 rfl) rfl ?_
  refine q_iconst (v := 2) (dx D_m_walks 34 rfl) (by decide) ?_
  refine e_aload_n (dx D_m_walks 35 rfl) rfl ?_
  refine e_getI (dx D_m_walks 36 rfl) fl_RX9_104 rfl rfl ?_
  refine e_imul (dx D_m_walks 37 rfl) ?_
  refine e_icmp_ge (tgt := 157) (dx D_m_walks 38 rfl) (by decide) (fun c => ?_) (fun c => ?_)
  · replace h := h.1 c
    refine q_iconst (v := 0) (dx D_m_walks 87 rfl) (by decide) ?_
    refine q_istore (L' := [some (.ref 34), none, some (.int x2), some (.int x3), some (.int 0), none]) (dx D_m_walks 88 rfl) (by decide) rfl ?_
    exact h
  · replace h := h.2 c
    refine e_aload_n (dx D_m_walks 39 rfl) rfl ?_
    refine e_getR (dx D_m_walks 40 rfl) fl_RX9_61 rfl rfl ?_
    refine e_iload (dx D_m_walks 41 rfl) rfl ?_
    refine q_iconst (v := 0) (dx D_m_walks 42 rfl) (by decide) ?_
    obtain ⟨hb1, h⟩ := h
    refine e_iast (dx D_m_walks 43 rfl) rfl hb1 ?_
    refine q_iconst (v := 0) (dx D_m_walks 44 rfl) (by decide) ?_
    refine q_istore (L' := [some (.ref 34), none, some (.int x2), some (.int x3), some (.int x4), some (.int 0)]) (dx D_m_walks 45 rfl) (by decide) rfl ?_
    exact h
set_option maxRecDepth 20000 in
theorem Vm_walks_78 {x2 : Int32} {x3 : Int32} {x4 : Int32} {x5 : Int32} {g : Sg} {Q : Sg → Prop} (h : (((2 * (g 34 8)) ≤ x5 → Hm_walks_56 x2 x3 (x4 + 1) g Q) ∧ (¬ (2 * (g 34 8)) ≤ x5 → (((¬ tbb (g 41 0) (x4 / 2) = true) → vp_in x4 32 ∧ (((x5 / 2) = (x4 / 2) → vp_in x4 32 ∧ Hm_walks_78 x2 x3 x4 (x5 + 1) (sgU g 52 (x4).toNatClampNeg ((g 52 (x4).toNatClampNeg) + 0)) Q) ∧ (¬ (x5 / 2) = (x4 / 2) → Cm_outAt x5 g (fun r4 g3 => Cm_inAt x4 g3 (fun r6 g5 => ((r4 = r6 → vp_in x5 32 ∧ vp_in x4 32 ∧ Hm_walks_78 x2 x3 x4 (x5 + 1) (sgU g5 52 (x4).toNatClampNeg ((g 52 (x4).toNatClampNeg) + (g5 51 (x5).toNatClampNeg))) Q) ∧ (¬ r4 = r6 → vp_in x4 32 ∧ Hm_walks_78 x2 x3 x4 (x5 + 1) (sgU g5 52 (x4).toNatClampNeg ((g 52 (x4).toNatClampNeg) + 0)) Q))))))) ∧ (¬ (¬ tbb (g 41 0) (x4 / 2) = true) → Hm_walks_56 x2 x3 (x4 + 1) g Q))))) : Hm_walks_78 x2 x3 x4 x5 g Q := by
  refine e_iload (dx D_m_walks 46 rfl) rfl ?_
  refine q_iconst (v := 2) (dx D_m_walks 47 rfl) (by decide) ?_
  refine e_aload_n (dx D_m_walks 48 rfl) rfl ?_
  refine e_getI (dx D_m_walks 49 rfl) fl_RX9_104 rfl rfl ?_
  refine e_imul (dx D_m_walks 50 rfl) ?_
  refine e_icmp_ge (tgt := 151) (dx D_m_walks 51 rfl) (by decide) (fun c => ?_) (fun c => ?_)
  · replace h := h.1 c
    refine q_iinc (d := 1) (L' := [some (.ref 34), none, some (.int x2), some (.int x3), some (.int (x4 + 1)), some (.int x5)]) (dx D_m_walks 85 rfl) rfl (by decide) (by decide) rfl ?_
    refine e_goto (tgt := 56) (dx D_m_walks 86 rfl) (by decide) ?_
    exact Wp.mask [true, false, true, true, true, false] h
  · replace h := h.2 c
    refine e_aload_n (dx D_m_walks 52 rfl) rfl ?_
    refine e_iload (dx D_m_walks 53 rfl) rfl ?_
    refine e_callVi (Q1 := fun r g' => bP (¬ tbb (g 41 0) (x4 / 2) = true) = r ∧ g = g') (rest := []) [.int x4] (dx D_m_walks 54 rfl) ln_m_walks_248 rfl rfl rfl (Nat.le_of_ble_eq_true rfl) (Im_goesThrough  ⟨rfl, rfl⟩) (fun r g' hh => ?_)
    obtain ⟨rfl, rfl⟩ := hh
    refine e_if_eq (tgt := 151) (dx D_m_walks 55 rfl) (by decide) (fun c => ?_) (fun c => ?_)
    · replace h := h.2 (bP_z c)
      refine q_iinc (d := 1) (L' := [some (.ref 34), none, some (.int x2), some (.int x3), some (.int (x4 + 1)), some (.int x5)]) (dx D_m_walks 85 rfl) rfl (by decide) (by decide) rfl ?_
      refine e_goto (tgt := 56) (dx D_m_walks 86 rfl) (by decide) ?_
      exact Wp.mask [true, false, true, true, true, false] h
    · replace h := h.1 (bP_n c)
      refine e_aload_n (dx D_m_walks 56 rfl) rfl ?_
      refine e_getR (dx D_m_walks 57 rfl) fl_RX9_61 rfl rfl ?_
      refine e_iload (dx D_m_walks 58 rfl) rfl ?_
      refine e_dup2 (dx D_m_walks 59 rfl) rfl rfl ?_
      obtain ⟨hb1, h⟩ := h
      refine e_iald (dx D_m_walks 60 rfl) rfl hb1 ?_
      refine e_iload (dx D_m_walks 61 rfl) rfl ?_
      refine q_iconst (v := 2) (dx D_m_walks 62 rfl) (by decide) ?_
      refine e_idiv (dx D_m_walks 63 rfl) (by decide) ?_
      refine e_iload (dx D_m_walks 64 rfl) rfl ?_
      refine q_iconst (v := 2) (dx D_m_walks 65 rfl) (by decide) ?_
      refine e_idiv (dx D_m_walks 66 rfl) (by decide) ?_
      refine e_icmp_eq (tgt := 142) (dx D_m_walks 67 rfl) (by decide) (fun c => ?_) (fun c => ?_)
      · replace h := h.1 c
        refine q_iconst (v := 0) (dx D_m_walks 80 rfl) (by decide) ?_
        refine e_iadd (dx D_m_walks 81 rfl) ?_
        obtain ⟨hb2, h⟩ := h
        refine e_iast (dx D_m_walks 82 rfl) rfl hb2 ?_
        refine q_iinc (d := 1) (L' := [some (.ref 34), none, some (.int x2), some (.int x3), some (.int x4), some (.int (x5 + 1))]) (dx D_m_walks 83 rfl) rfl (by decide) (by decide) rfl ?_
        refine e_goto (tgt := 78) (dx D_m_walks 84 rfl) (by decide) ?_
        exact h
      · replace h := h.2 c
        refine e_aload_n (dx D_m_walks 68 rfl) rfl ?_
        refine e_iload (dx D_m_walks 69 rfl) rfl ?_
        refine e_callVi (rest := [.int (g 52 (x4).toNatClampNeg), .int x4, .ref 52]) [.int x5] (dx D_m_walks 70 rfl) ln_m_walks_254 rfl rfl rfl (Nat.le_of_ble_eq_true rfl) h (fun r4 g3 h => ?_)
        refine e_aload_n (dx D_m_walks 71 rfl) rfl ?_
        refine e_iload (dx D_m_walks 72 rfl) rfl ?_
        refine e_callVi (rest := [.int r4, .int (g 52 (x4).toNatClampNeg), .int x4, .ref 52]) [.int x4] (dx D_m_walks 73 rfl) ln_m_walks_251 rfl rfl rfl (Nat.le_of_ble_eq_true rfl) h (fun r6 g5 h => ?_)
        refine e_icmp_ne (tgt := 142) (dx D_m_walks 74 rfl) (by decide) (fun c => ?_) (fun c => ?_)
        · replace h := h.2 c
          refine q_iconst (v := 0) (dx D_m_walks 80 rfl) (by decide) ?_
          refine e_iadd (dx D_m_walks 81 rfl) ?_
          obtain ⟨hb7, h⟩ := h
          refine e_iast (dx D_m_walks 82 rfl) rfl hb7 ?_
          refine q_iinc (d := 1) (L' := [some (.ref 34), none, some (.int x2), some (.int x3), some (.int x4), some (.int (x5 + 1))]) (dx D_m_walks 83 rfl) rfl (by decide) (by decide) rfl ?_
          refine e_goto (tgt := 78) (dx D_m_walks 84 rfl) (by decide) ?_
          exact h
        · replace h := h.1 c
          refine e_aload_n (dx D_m_walks 75 rfl) rfl ?_
          refine e_getR (dx D_m_walks 76 rfl) fl_RX9_58 rfl rfl ?_
          refine e_iload (dx D_m_walks 77 rfl) rfl ?_
          obtain ⟨hb8, h⟩ := h
          refine e_iald (dx D_m_walks 78 rfl) rfl hb8 ?_
          refine e_goto (tgt := 143) (dx D_m_walks 79 rfl) (by decide) ?_
          refine e_iadd (dx D_m_walks 81 rfl) ?_
          obtain ⟨hb9, h⟩ := h
          refine e_iast (dx D_m_walks 82 rfl) rfl hb9 ?_
          refine q_iinc (d := 1) (L' := [some (.ref 34), none, some (.int x2), some (.int x3), some (.int x4), some (.int (x5 + 1))]) (dx D_m_walks 83 rfl) rfl (by decide) (by decide) rfl ?_
          refine e_goto (tgt := 78) (dx D_m_walks 84 rfl) (by decide) ?_
          exact h
set_option maxRecDepth 20000 in
theorem Vm_walks_160 {x2 : Int32} {x3 : Int32} {x4 : Int32} {g : Sg} {Q : Sg → Prop} (h : (((2 * (g 34 8)) ≤ x4 → Hm_walks_48 x2 (x3 + 1) g Q) ∧ (¬ (2 * (g 34 8)) ≤ x4 → vp_in x4 32 ∧ vp_in x4 32 ∧ Hm_walks_160 x2 x3 (x4 + 1) (sgU g 51 (x4).toNatClampNeg (g 52 (x4).toNatClampNeg)) Q))) : Hm_walks_160 x2 x3 x4 g Q := by
  refine e_iload (dx D_m_walks 89 rfl) rfl ?_
  refine q_iconst (v := 2) (dx D_m_walks 90 rfl) (by decide) ?_
  refine e_aload_n (dx D_m_walks 91 rfl) rfl ?_
  refine e_getI (dx D_m_walks 92 rfl) fl_RX9_104 rfl rfl ?_
  refine e_imul (dx D_m_walks 93 rfl) ?_
  refine e_icmp_ge (tgt := 191) (dx D_m_walks 94 rfl) (by decide) (fun c => ?_) (fun c => ?_)
  · replace h := h.1 c
    refine q_iinc (d := 1) (L' := [some (.ref 34), none, some (.int x2), some (.int (x3 + 1)), some (.int x4), none]) (dx D_m_walks 105 rfl) rfl (by decide) (by decide) rfl ?_
    refine e_goto (tgt := 48) (dx D_m_walks 106 rfl) (by decide) ?_
    exact Wp.mask [true, false, true, true, false, false] h
  · replace h := h.2 c
    refine e_aload_n (dx D_m_walks 95 rfl) rfl ?_
    refine e_getR (dx D_m_walks 96 rfl) fl_RX9_58 rfl rfl ?_
    refine e_iload (dx D_m_walks 97 rfl) rfl ?_
    refine e_aload_n (dx D_m_walks 98 rfl) rfl ?_
    refine e_getR (dx D_m_walks 99 rfl) fl_RX9_61 rfl rfl ?_
    refine e_iload (dx D_m_walks 100 rfl) rfl ?_
    obtain ⟨hb1, h⟩ := h
    refine e_iald (dx D_m_walks 101 rfl) rfl hb1 ?_
    obtain ⟨hb2, h⟩ := h
    refine e_iast (dx D_m_walks 102 rfl) rfl hb2 ?_
    refine q_iinc (d := 1) (L' := [some (.ref 34), none, some (.int x2), some (.int x3), some (.int (x4 + 1)), none]) (dx D_m_walks 103 rfl) rfl (by decide) (by decide) rfl ?_
    refine e_goto (tgt := 160) (dx D_m_walks 104 rfl) (by decide) ?_
    exact h
abbrev Cm_waysTo (x1 : Int32) (x2 : Int32) (x3 : Int32) (g : Sg) (Q : Int32 → Sg → Prop) : Prop := Ci Mm_waysTo [.ref 34, .int x1, .int x2, .int x3] g Q
abbrev Hm_waysTo_21 (x3 : Int32) (x4 : Int32) (x5 : Int32) (g : Sg) (Q : Int32 → Sg → Prop) : Prop := Hi Mm_waysTo 21 [some (.ref 34), none, none, some (.int x3), some (.int x4), some (.int x5)] [] g Q
set_option maxRecDepth 20000 in
theorem Vm_waysTo {x1 : Int32} {x2 : Int32} {x3 : Int32} {g : Sg} {Q : Int32 → Sg → Prop} (h : ((x2 = 0 → ((x1 = x3 → Q 1 g) ∧ (¬ x1 = x3 → Q 0 g))) ∧ (¬ x2 = 0 → Hm_waysTo_21 x3 0 0 g Q))) : Cm_waysTo x1 x2 x3 g Q := by
  refine Cl.of 2 pl_X9 rfl ?_
  refine e_iload_n (dx D_m_waysTo 0 rfl) rfl ?_
  refine e_if_ne (tgt := 15) (dx D_m_waysTo 1 rfl) (by decide) (fun c => ?_) (fun c => ?_)
  · replace h := h.2 c
    refine q_iconst (v := 0) (dx D_m_waysTo 9 rfl) (by decide) ?_
    refine q_istore (L' := [some (.ref 34), some (.int x1), some (.int x2), some (.int x3), some (.int 0), none]) (dx D_m_waysTo 10 rfl) (by decide) rfl ?_
    refine q_iconst (v := 0) (dx D_m_waysTo 11 rfl) (by decide) ?_
    refine q_istore (L' := [some (.ref 34), some (.int x1), some (.int x2), some (.int x3), some (.int 0), some (.int 0)]) (dx D_m_waysTo 12 rfl) (by decide) rfl ?_
    exact Wp.mask [true, false, false, true, true, true] h
  · replace h := h.1 c
    refine e_iload_n (dx D_m_waysTo 2 rfl) rfl ?_
    refine e_iload_n (dx D_m_waysTo 3 rfl) rfl ?_
    refine e_icmp_ne (tgt := 13) (dx D_m_waysTo 4 rfl) (by decide) (fun c => ?_) (fun c => ?_)
    · replace h := h.2 c
      refine q_iconst (v := 0) (dx D_m_waysTo 7 rfl) (by decide) ?_
      exact e_iret (dx D_m_waysTo 8 rfl) rfl rfl ⟨_, rfl, h⟩
    · replace h := h.1 c
      refine q_iconst (v := 1) (dx D_m_waysTo 5 rfl) (by decide) ?_
      refine e_goto (tgt := 14) (dx D_m_waysTo 6 rfl) (by decide) ?_
      exact e_iret (dx D_m_waysTo 8 rfl) rfl rfl ⟨_, rfl, h⟩
set_option maxRecDepth 20000 in
theorem Vm_waysTo_21 {x3 : Int32} {x4 : Int32} {x5 : Int32} {g : Sg} {Q : Int32 → Sg → Prop} (h : (((2 * (g 34 8)) ≤ x5 → Q x4 g) ∧ (¬ (2 * (g 34 8)) ≤ x5 → Cm_outAt x5 g (fun r2 g1 => ((r2 = x3 → vp_in x5 32 ∧ Hm_waysTo_21 x3 (x4 + (g1 51 (x5).toNatClampNeg)) (x5 + 1) g1 Q) ∧ (¬ r2 = x3 → Hm_waysTo_21 x3 (x4 + 0) (x5 + 1) g1 Q)))))) : Hm_waysTo_21 x3 x4 x5 g Q := by
  refine e_iload (dx D_m_waysTo 13 rfl) rfl ?_
  refine q_iconst (v := 2) (dx D_m_waysTo 14 rfl) (by decide) ?_
  refine e_aload_n (dx D_m_waysTo 15 rfl) rfl ?_
  refine e_getI (dx D_m_waysTo 16 rfl) fl_RX9_104 rfl rfl ?_
  refine e_imul (dx D_m_waysTo 17 rfl) ?_
  refine e_icmp_ge (tgt := 64) (dx D_m_waysTo 18 rfl) (by decide) (fun c => ?_) (fun c => ?_)
  · replace h := h.1 c
    refine e_iload (dx D_m_waysTo 35 rfl) rfl ?_
    exact e_iret (dx D_m_waysTo 36 rfl) rfl rfl ⟨_, rfl, h⟩
  · replace h := h.2 c
    refine e_iload (dx D_m_waysTo 19 rfl) rfl ?_
    refine e_aload_n (dx D_m_waysTo 20 rfl) rfl ?_
    refine e_iload (dx D_m_waysTo 21 rfl) rfl ?_
    refine e_callVi (rest := [.int x4]) [.int x5] (dx D_m_waysTo 22 rfl) ln_m_waysTo_254 rfl rfl rfl (Nat.le_of_ble_eq_true rfl) h (fun r2 g1 h => ?_)
    refine e_iload_n (dx D_m_waysTo 23 rfl) rfl ?_
    refine e_icmp_ne (tgt := 54) (dx D_m_waysTo 24 rfl) (by decide) (fun c => ?_) (fun c => ?_)
    · replace h := h.2 c
      refine q_iconst (v := 0) (dx D_m_waysTo 30 rfl) (by decide) ?_
      refine e_iadd (dx D_m_waysTo 31 rfl) ?_
      refine q_istore (L' := [some (.ref 34), none, none, some (.int x3), some (.int (x4 + 0)), some (.int x5)]) (dx D_m_waysTo 32 rfl) (by decide) rfl ?_
      refine q_iinc (d := 1) (L' := [some (.ref 34), none, none, some (.int x3), some (.int (x4 + 0)), some (.int (x5 + 1))]) (dx D_m_waysTo 33 rfl) rfl (by decide) (by decide) rfl ?_
      refine e_goto (tgt := 21) (dx D_m_waysTo 34 rfl) (by decide) ?_
      exact h
    · replace h := h.1 c
      refine e_aload_n (dx D_m_waysTo 25 rfl) rfl ?_
      refine e_getR (dx D_m_waysTo 26 rfl) fl_RX9_58 rfl rfl ?_
      refine e_iload (dx D_m_waysTo 27 rfl) rfl ?_
      obtain ⟨hb3, h⟩ := h
      refine e_iald (dx D_m_waysTo 28 rfl) rfl hb3 ?_
      refine e_goto (tgt := 55) (dx D_m_waysTo 29 rfl) (by decide) ?_
      refine e_iadd (dx D_m_waysTo 31 rfl) ?_
      refine q_istore (L' := [some (.ref 34), none, none, some (.int x3), some (.int (x4 + (g1 51 (x5).toNatClampNeg))), some (.int x5)]) (dx D_m_waysTo 32 rfl) (by decide) rfl ?_
      refine q_iinc (d := 1) (L' := [some (.ref 34), none, none, some (.int x3), some (.int (x4 + (g1 51 (x5).toNatClampNeg))), some (.int (x5 + 1))]) (dx D_m_waysTo 33 rfl) rfl (by decide) (by decide) rfl ?_
      refine e_goto (tgt := 21) (dx D_m_waysTo 34 rfl) (by decide) ?_
      exact h
abbrev Cm_heardOf (x1 : Int32) (x2 : Int32) (x3 : Int32) (g : Sg) (Q : Int32 → Sg → Prop) : Prop := Ci Mm_heardOf [.ref 34, .int x1, .int x2, .int x3] g Q
abbrev Hm_heardOf_25 (x1 : Int32) (x2 : Int32) (x4 : Int32) (x5 : Int32) (g : Sg) (Q : Int32 → Sg → Prop) : Prop := Hi Mm_heardOf 25 [some (.ref 34), some (.int x1), some (.int x2), none, some (.int x4), some (.int x5)] [] g Q
set_option maxRecDepth 20000 in
theorem Vm_heardOf {x1 : Int32} {x2 : Int32} {x3 : Int32} {g : Sg} {Q : Int32 → Sg → Prop} (h : Cm_walks x1 x2 g (fun g1 => ((x3 = (-1) → Hm_heardOf_25 x1 x2 0 0 g1 Q) ∧ (¬ x3 = (-1) → Cm_waysTo x1 x2 x3 g1 (fun r3 g2 => Q r3 g2))))) : Cm_heardOf x1 x2 x3 g Q := by
  refine Cl.of 2 pl_X9 rfl ?_
  refine e_aload_n (dx D_m_heardOf 0 rfl) rfl ?_
  refine e_iload_n (dx D_m_heardOf 1 rfl) rfl ?_
  refine e_iload_n (dx D_m_heardOf 2 rfl) rfl ?_
  refine e_callVv (rest := []) [.int x1, .int x2] (dx D_m_heardOf 3 rfl) ln_m_heardOf_257 rfl rfl rfl (Nat.le_of_ble_eq_true rfl) h (fun g1 h => ?_)
  refine e_iload_n (dx D_m_heardOf 4 rfl) rfl ?_
  refine q_iconst (v := (-1)) (dx D_m_heardOf 5 rfl) (by decide) ?_
  refine e_icmp_eq (tgt := 19) (dx D_m_heardOf 6 rfl) (by decide) (fun c => ?_) (fun c => ?_)
  · replace h := h.1 c
    refine q_iconst (v := 0) (dx D_m_heardOf 13 rfl) (by decide) ?_
    refine q_istore (L' := [some (.ref 34), some (.int x1), some (.int x2), some (.int x3), some (.int 0), none]) (dx D_m_heardOf 14 rfl) (by decide) rfl ?_
    refine q_iconst (v := 0) (dx D_m_heardOf 15 rfl) (by decide) ?_
    refine q_istore (L' := [some (.ref 34), some (.int x1), some (.int x2), some (.int x3), some (.int 0), some (.int 0)]) (dx D_m_heardOf 16 rfl) (by decide) rfl ?_
    exact Wp.mask [true, true, true, false, true, true] h
  · replace h := h.2 c
    refine e_aload_n (dx D_m_heardOf 7 rfl) rfl ?_
    refine e_iload_n (dx D_m_heardOf 8 rfl) rfl ?_
    refine e_iload_n (dx D_m_heardOf 9 rfl) rfl ?_
    refine e_iload_n (dx D_m_heardOf 10 rfl) rfl ?_
    refine e_callVi (rest := []) [.int x1, .int x2, .int x3] (dx D_m_heardOf 11 rfl) ln_m_heardOf_261 rfl rfl rfl (Nat.le_of_ble_eq_true rfl) h (fun r3 g2 h => ?_)
    exact e_iret (dx D_m_heardOf 12 rfl) rfl rfl ⟨_, rfl, h⟩
set_option maxRecDepth 20000 in
theorem Vm_heardOf_25 {x1 : Int32} {x2 : Int32} {x4 : Int32} {x5 : Int32} {g : Sg} {Q : Int32 → Sg → Prop} (h : ((8 ≤ x5 → Q x4 g) ∧ (¬ 8 ≤ x5 → Cm_waysTo x1 x2 x5 g (fun r2 g1 => ((r2 ≤ 0 → Hm_heardOf_25 x1 x2 (x4 ||| 0) (x5 + 1) g1 Q) ∧ (¬ r2 ≤ 0 → Hm_heardOf_25 x1 x2 (x4 ||| (sb x5)) (x5 + 1) g1 Q)))))) : Hm_heardOf_25 x1 x2 x4 x5 g Q := by
  refine e_iload (dx D_m_heardOf 17 rfl) rfl ?_
  refine q_bipush (v := 8) (dx D_m_heardOf 18 rfl) (by decide) ?_
  refine e_icmp_ge (tgt := 62) (dx D_m_heardOf 19 rfl) (by decide) (fun c => ?_) (fun c => ?_)
  · replace h := h.1 c
    refine e_iload (dx D_m_heardOf 36 rfl) rfl ?_
    exact e_iret (dx D_m_heardOf 37 rfl) rfl rfl ⟨_, rfl, h⟩
  · replace h := h.2 c
    refine e_iload (dx D_m_heardOf 20 rfl) rfl ?_
    refine e_aload_n (dx D_m_heardOf 21 rfl) rfl ?_
    refine e_iload_n (dx D_m_heardOf 22 rfl) rfl ?_
    refine e_iload_n (dx D_m_heardOf 23 rfl) rfl ?_
    refine e_iload (dx D_m_heardOf 24 rfl) rfl ?_
    refine e_callVi (rest := [.int x4]) [.int x1, .int x2, .int x5] (dx D_m_heardOf 25 rfl) ln_m_heardOf_261 rfl rfl rfl (Nat.le_of_ble_eq_true rfl) h (fun r2 g1 h => ?_)
    refine e_if_le (tgt := 52) (dx D_m_heardOf 26 rfl) (by decide) (fun c => ?_) (fun c => ?_)
    · replace h := h.1 c
      refine q_iconst (v := 0) (dx D_m_heardOf 31 rfl) (by decide) ?_
      refine e_ior (dx D_m_heardOf 32 rfl) ?_
      refine q_istore (L' := [some (.ref 34), some (.int x1), some (.int x2), none, some (.int (x4 ||| 0)), some (.int x5)]) (dx D_m_heardOf 33 rfl) (by decide) rfl ?_
      refine q_iinc (d := 1) (L' := [some (.ref 34), some (.int x1), some (.int x2), none, some (.int (x4 ||| 0)), some (.int (x5 + 1))]) (dx D_m_heardOf 34 rfl) rfl (by decide) (by decide) rfl ?_
      refine e_goto (tgt := 25) (dx D_m_heardOf 35 rfl) (by decide) ?_
      exact h
    · replace h := h.2 c
      refine q_iconst (v := 1) (dx D_m_heardOf 27 rfl) (by decide) ?_
      refine e_iload (dx D_m_heardOf 28 rfl) rfl ?_
      refine e_ishl (dx D_m_heardOf 29 rfl) ?_
      refine e_goto (tgt := 53) (dx D_m_heardOf 30 rfl) (by decide) ?_
      refine e_ior (dx D_m_heardOf 32 rfl) ?_
      refine q_istore (L' := [some (.ref 34), some (.int x1), some (.int x2), none, some (.int (x4 ||| (sb x5))), some (.int x5)]) (dx D_m_heardOf 33 rfl) (by decide) rfl ?_
      refine q_iinc (d := 1) (L' := [some (.ref 34), some (.int x1), some (.int x2), none, some (.int (x4 ||| (sb x5))), some (.int (x5 + 1))]) (dx D_m_heardOf 34 rfl) rfl (by decide) (by decide) rfl ?_
      refine e_goto (tgt := 25) (dx D_m_heardOf 35 rfl) (by decide) ?_
      exact h
abbrev Cm_heard (x1 : Int32) (x2 : Int32) (x3 : Int32) (g : Sg) (Q : Int32 → Sg → Prop) : Prop := Ci Mm_heard [.ref 34, .int x1, .int x2, .int x3] g Q
set_option maxRecDepth 20000 in
theorem Vm_heard {x1 : Int32} {x2 : Int32} {x3 : Int32} {g : Sg} {Q : Int32 → Sg → Prop} (h : Cm_reads g (fun r2 g1 => (((isE x1) → (((0 ≤ x2 ∧ x2 ≤ 6) → ((((-1) ≤ x3 ∧ x3 ≤ 7) → Cm_heardOf x1 x2 x3 g1 (fun r4 g3 => Q r4 g3)) ∧ (¬ ((-1) ≤ x3 ∧ x3 ≤ 7) → Q (-2) g1))) ∧ (¬ (0 ≤ x2 ∧ x2 ≤ 6) → Q (-2) g1))) ∧ (¬ (isE x1) → Q (-2) g1)))) : Cm_heard x1 x2 x3 g Q := by
  refine Cl.of 0 pl_X9 rfl ?_
  refine e_aload_n (dx D_m_heard 0 rfl) rfl ?_
  refine e_callVi (rest := []) [] (dx D_m_heard 1 rfl) ln_m_heard_118 rfl rfl rfl (Nat.le_of_ble_eq_true rfl) h (fun r2 g1 h => ?_)
  refine e_pop (dx D_m_heard 2 rfl) rfl ?_
  refine e_iload_n (dx D_m_heard 3 rfl) rfl ?_
  refine e_callSi (Q1 := fun r g' => bP (isE x1) = r ∧ g1 = g') (rest := []) [.int x1] (dx D_m_heard 4 rfl) ln_m_heard_130 rfl rfl (Nat.le_of_ble_eq_true rfl) (Im_isEnd  ⟨rfl, rfl⟩) (fun r g' hh => ?_)
  obtain ⟨rfl, rfl⟩ := hh
  refine e_if_eq (tgt := 48) (dx D_m_heard 5 rfl) (by decide) (fun c => ?_) (fun c => ?_)
  · replace h := h.2 (bP_z c)
    refine q_bipush (v := (-2)) (dx D_m_heard 24 rfl) (by decide) ?_
    exact e_iret (dx D_m_heard 25 rfl) rfl rfl ⟨_, rfl, h⟩
  · replace h := h.1 (bP_n c)
    refine e_iload_n (dx D_m_heard 6 rfl) rfl ?_
    refine e_i2l (dx D_m_heard 7 rfl) ?_
    refine q_lconst (v := 0) (dx D_m_heard 8 rfl) (by decide) ?_
    refine e_ldc2 (v := 6) (dx D_m_heard 9 rfl) k1315 ?_
    refine e_callSi (Q1 := fun r g' => bP (0 ≤ x2 ∧ x2 ≤ 6) = r ∧ g1 = g') (rest := []) [.long (Int32.toInt64 x2), .long 0, .long 6] (dx D_m_heard 10 rfl) ln_m_heard_70 rfl rfl (Nat.le_of_ble_eq_true rfl) (Im_in  ⟨(in32 (a := x2) (b := 0) (c := 6) rfl (by decide) (by decide)).symm, rfl⟩) (fun r g' hh => ?_)
    obtain ⟨rfl, rfl⟩ := hh
    refine e_if_eq (tgt := 48) (dx D_m_heard 11 rfl) (by decide) (fun c => ?_) (fun c => ?_)
    · replace h := h.2 (bP_z c)
      refine q_bipush (v := (-2)) (dx D_m_heard 24 rfl) (by decide) ?_
      exact e_iret (dx D_m_heard 25 rfl) rfl rfl ⟨_, rfl, h⟩
    · replace h := h.1 (bP_n c)
      refine e_iload_n (dx D_m_heard 12 rfl) rfl ?_
      refine e_i2l (dx D_m_heard 13 rfl) ?_
      refine e_ldc2 (v := (-1)) (dx D_m_heard 14 rfl) k1316 ?_
      refine e_ldc2 (v := 7) (dx D_m_heard 15 rfl) k1106 ?_
      refine e_callSi (Q1 := fun r g' => bP ((-1) ≤ x3 ∧ x3 ≤ 7) = r ∧ g1 = g') (rest := []) [.long (Int32.toInt64 x3), .long (-1), .long 7] (dx D_m_heard 16 rfl) ln_m_heard_70 rfl rfl (Nat.le_of_ble_eq_true rfl) (Im_in  ⟨(in32 (a := x3) (b := (-1)) (c := 7) rfl (by decide) (by decide)).symm, rfl⟩) (fun r g' hh => ?_)
      obtain ⟨rfl, rfl⟩ := hh
      refine e_if_eq (tgt := 48) (dx D_m_heard 17 rfl) (by decide) (fun c => ?_) (fun c => ?_)
      · replace h := h.2 (bP_z c)
        refine q_bipush (v := (-2)) (dx D_m_heard 24 rfl) (by decide) ?_
        exact e_iret (dx D_m_heard 25 rfl) rfl rfl ⟨_, rfl, h⟩
      · replace h := h.1 (bP_n c)
        refine e_aload_n (dx D_m_heard 18 rfl) rfl ?_
        refine e_iload_n (dx D_m_heard 19 rfl) rfl ?_
        refine e_iload_n (dx D_m_heard 20 rfl) rfl ?_
        refine e_iload_n (dx D_m_heard 21 rfl) rfl ?_
        refine e_callVi (rest := []) [.int x1, .int x2, .int x3] (dx D_m_heard 22 rfl) ln_m_heard_268 rfl rfl rfl (Nat.le_of_ble_eq_true rfl) h (fun r4 g3 h => ?_)
        refine e_goto (tgt := 50) (dx D_m_heard 23 rfl) (by decide) ?_
        exact e_iret (dx D_m_heard 25 rfl) rfl rfl ⟨_, rfl, h⟩
abbrev Cm_meetOf (x1 : Int32) (x2 : Int32) (x3 : Int32) (x4 : Int32) (g : Sg) (Q : Int32 → Sg → Prop) : Prop := Ci Mm_meetOf [.ref 34, .int x1, .int x2, .int x3, .int x4] g Q
set_option maxRecDepth 20000 in
theorem Vm_meetOf {x1 : Int32} {x2 : Int32} {x3 : Int32} {x4 : Int32} {g : Sg} {Q : Int32 → Sg → Prop} (h : vp_in ((4 * x1) + 2) 64 ∧ (((g 40 ((4 * x1) + 2).toNatClampNeg) ≤ (x3 - x2) → Q (-1) g) ∧ (¬ (g 40 ((4 * x1) + 2).toNatClampNeg) ≤ (x3 - x2) → (((-(x3 - x2)) < (g 40 ((4 * x1) + 2).toNatClampNeg) → ((x4 = 0 → Q ((g 40 ((4 * x1) + 2).toNatClampNeg) + (x3 - x2)) g) ∧ (¬ x4 = 0 → (((x3 - x2) ≤ 0 → Q 0 g) ∧ (¬ (x3 - x2) ≤ 0 → Q 1 g))))) ∧ (¬ (-(x3 - x2)) < (g 40 ((4 * x1) + 2).toNatClampNeg) → Q (-1) g))))) : Cm_meetOf x1 x2 x3 x4 g Q := by
  refine Cl.of 2 pl_X9 rfl ?_
  refine e_aload_n (dx D_m_meetOf 0 rfl) rfl ?_
  refine e_getR (dx D_m_meetOf 1 rfl) fl_RX9_25 rfl rfl ?_
  refine q_iconst (v := 4) (dx D_m_meetOf 2 rfl) (by decide) ?_
  refine e_iload_n (dx D_m_meetOf 3 rfl) rfl ?_
  refine e_imul (dx D_m_meetOf 4 rfl) ?_
  refine q_iconst (v := 2) (dx D_m_meetOf 5 rfl) (by decide) ?_
  refine e_iadd (dx D_m_meetOf 6 rfl) ?_
  obtain ⟨hb1, h⟩ := h
  refine e_iald (dx D_m_meetOf 7 rfl) rfl hb1 ?_
  refine q_istore (L' := [some (.ref 34), some (.int x1), some (.int x2), some (.int x3), some (.int x4), some (.int (g 40 ((4 * x1) + 2).toNatClampNeg)), none]) (dx D_m_meetOf 8 rfl) (by decide) rfl ?_
  refine e_iload_n (dx D_m_meetOf 9 rfl) rfl ?_
  refine e_iload_n (dx D_m_meetOf 10 rfl) rfl ?_
  refine e_isub (dx D_m_meetOf 11 rfl) ?_
  refine q_istore (L' := [some (.ref 34), some (.int x1), some (.int x2), some (.int x3), some (.int x4), some (.int (g 40 ((4 * x1) + 2).toNatClampNeg)), some (.int (x3 - x2))]) (dx D_m_meetOf 12 rfl) (by decide) rfl ?_
  refine e_iload (dx D_m_meetOf 13 rfl) rfl ?_
  refine e_iload (dx D_m_meetOf 14 rfl) rfl ?_
  refine e_icmp_ge (tgt := 32) (dx D_m_meetOf 15 rfl) (by decide) (fun c => ?_) (fun c => ?_)
  · replace h := h.1 c
    refine q_iconst (v := (-1)) (dx D_m_meetOf 20 rfl) (by decide) ?_
    refine e_goto (tgt := 59) (dx D_m_meetOf 21 rfl) (by decide) ?_
    exact e_iret (dx D_m_meetOf 33 rfl) rfl rfl ⟨_, rfl, h⟩
  · replace h := h.2 c
    refine e_iload (dx D_m_meetOf 16 rfl) rfl ?_
    refine e_ineg (dx D_m_meetOf 17 rfl) ?_
    refine e_iload (dx D_m_meetOf 18 rfl) rfl ?_
    refine e_icmp_lt (tgt := 36) (dx D_m_meetOf 19 rfl) (by decide) (fun c => ?_) (fun c => ?_)
    · replace h := h.1 c
      refine e_iload (dx D_m_meetOf 22 rfl) rfl ?_
      refine e_if_ne (tgt := 49) (dx D_m_meetOf 23 rfl) (by decide) (fun c => ?_) (fun c => ?_)
      · replace h := h.2 c
        refine e_iload (dx D_m_meetOf 28 rfl) rfl ?_
        refine e_if_le (tgt := 58) (dx D_m_meetOf 29 rfl) (by decide) (fun c => ?_) (fun c => ?_)
        · replace h := h.1 c
          refine q_iconst (v := 0) (dx D_m_meetOf 32 rfl) (by decide) ?_
          exact e_iret (dx D_m_meetOf 33 rfl) rfl rfl ⟨_, rfl, h⟩
        · replace h := h.2 c
          refine q_iconst (v := 1) (dx D_m_meetOf 30 rfl) (by decide) ?_
          refine e_goto (tgt := 59) (dx D_m_meetOf 31 rfl) (by decide) ?_
          exact e_iret (dx D_m_meetOf 33 rfl) rfl rfl ⟨_, rfl, h⟩
      · replace h := h.1 c
        refine e_iload (dx D_m_meetOf 24 rfl) rfl ?_
        refine e_iload (dx D_m_meetOf 25 rfl) rfl ?_
        refine e_iadd (dx D_m_meetOf 26 rfl) ?_
        refine e_goto (tgt := 59) (dx D_m_meetOf 27 rfl) (by decide) ?_
        exact e_iret (dx D_m_meetOf 33 rfl) rfl rfl ⟨_, rfl, h⟩
    · replace h := h.2 c
      refine q_iconst (v := (-1)) (dx D_m_meetOf 20 rfl) (by decide) ?_
      refine e_goto (tgt := 59) (dx D_m_meetOf 21 rfl) (by decide) ?_
      exact e_iret (dx D_m_meetOf 33 rfl) rfl rfl ⟨_, rfl, h⟩
abbrev Cm_meet (x1 : Int32) (x2 : Int32) (x3 : Int32) (x4 : Int32) (g : Sg) (Q : Int32 → Sg → Prop) : Prop := Ci Mm_meet [.ref 34, .int x1, .int x2, .int x3, .int x4] g Q
set_option maxRecDepth 20000 in
theorem Vm_meet {x1 : Int32} {x2 : Int32} {x3 : Int32} {x4 : Int32} {g : Sg} {Q : Int32 → Sg → Prop} (h : Cm_reads g (fun r2 g1 => (((0 ≤ x1 ∧ x1 ≤ ((g1 34 8) - 1)) → (((0 ≤ x2 ∧ x2 ≤ 999) → (((0 ≤ x3 ∧ x3 ≤ 999) → (((0 ≤ x4 ∧ x4 ≤ 1) → Cm_meetOf x1 x2 x3 x4 g1 (fun r4 g3 => Q r4 g3)) ∧ (¬ (0 ≤ x4 ∧ x4 ≤ 1) → Q (-2) g1))) ∧ (¬ (0 ≤ x3 ∧ x3 ≤ 999) → Q (-2) g1))) ∧ (¬ (0 ≤ x2 ∧ x2 ≤ 999) → Q (-2) g1))) ∧ (¬ (0 ≤ x1 ∧ x1 ≤ ((g1 34 8) - 1)) → Q (-2) g1)))) : Cm_meet x1 x2 x3 x4 g Q := by
  refine Cl.of 1 pl_X9 rfl ?_
  refine e_aload_n (dx D_m_meet 0 rfl) rfl ?_
  refine e_callVi (rest := []) [] (dx D_m_meet 1 rfl) ln_m_meet_118 rfl rfl rfl (Nat.le_of_ble_eq_true rfl) h (fun r2 g1 h => ?_)
  refine e_pop (dx D_m_meet 2 rfl) rfl ?_
  refine e_iload_n (dx D_m_meet 3 rfl) rfl ?_
  refine e_i2l (dx D_m_meet 4 rfl) ?_
  refine q_lconst (v := 0) (dx D_m_meet 5 rfl) (by decide) ?_
  refine e_aload_n (dx D_m_meet 6 rfl) rfl ?_
  refine e_getI (dx D_m_meet 7 rfl) fl_RX9_104 rfl rfl ?_
  refine q_iconst (v := 1) (dx D_m_meet 8 rfl) (by decide) ?_
  refine e_isub (dx D_m_meet 9 rfl) ?_
  refine e_i2l (dx D_m_meet 10 rfl) ?_
  refine e_callSi (Q1 := fun r g' => bP (0 ≤ x1 ∧ x1 ≤ ((g1 34 8) - 1)) = r ∧ g1 = g') (rest := []) [.long (Int32.toInt64 x1), .long 0, .long (Int32.toInt64 ((g1 34 8) - 1))] (dx D_m_meet 11 rfl) ln_m_meet_70 rfl rfl (Nat.le_of_ble_eq_true rfl) (Im_in  ⟨(in32 (a := x1) (b := 0) (c := ((g1 34 8) - 1)) rfl (by decide) rfl).symm, rfl⟩) (fun r g' hh => ?_)
  obtain ⟨rfl, rfl⟩ := hh
  refine e_if_eq (tgt := 57) (dx D_m_meet 12 rfl) (by decide) (fun c => ?_) (fun c => ?_)
  · replace h := h.2 (bP_z c)
    refine q_iconst (v := 0) (dx D_m_meet 30 rfl) (by decide) ?_
    refine q_istore (L' := [some (.ref 34), some (.int x1), some (.int x2), some (.int x3), some (.int x4), some (.int 0)]) (dx D_m_meet 31 rfl) (by decide) rfl ?_
    refine e_iload (dx D_m_meet 32 rfl) rfl ?_
    refine e_if_eq (tgt := 77) (dx D_m_meet 33 rfl) (by decide) (fun c => ?_) (fun c => ?_)
    · skip
      refine q_bipush (v := (-2)) (dx D_m_meet 41 rfl) (by decide) ?_
      exact e_iret (dx D_m_meet 42 rfl) rfl rfl ⟨_, rfl, h⟩
    · exact absurd c (by decide)
  · replace h := h.1 (bP_n c)
    refine e_iload_n (dx D_m_meet 13 rfl) rfl ?_
    refine e_i2l (dx D_m_meet 14 rfl) ?_
    refine q_lconst (v := 0) (dx D_m_meet 15 rfl) (by decide) ?_
    refine e_ldc2 (v := 999) (dx D_m_meet 16 rfl) k1118 ?_
    refine e_callSi (Q1 := fun r g' => bP (0 ≤ x2 ∧ x2 ≤ 999) = r ∧ g1 = g') (rest := []) [.long (Int32.toInt64 x2), .long 0, .long 999] (dx D_m_meet 17 rfl) ln_m_meet_70 rfl rfl (Nat.le_of_ble_eq_true rfl) (Im_in  ⟨(in32 (a := x2) (b := 0) (c := 999) rfl (by decide) (by decide)).symm, rfl⟩) (fun r g' hh => ?_)
    obtain ⟨rfl, rfl⟩ := hh
    refine e_if_eq (tgt := 57) (dx D_m_meet 18 rfl) (by decide) (fun c => ?_) (fun c => ?_)
    · replace h := h.2 (bP_z c)
      refine q_iconst (v := 0) (dx D_m_meet 30 rfl) (by decide) ?_
      refine q_istore (L' := [some (.ref 34), some (.int x1), some (.int x2), some (.int x3), some (.int x4), some (.int 0)]) (dx D_m_meet 31 rfl) (by decide) rfl ?_
      refine e_iload (dx D_m_meet 32 rfl) rfl ?_
      refine e_if_eq (tgt := 77) (dx D_m_meet 33 rfl) (by decide) (fun c => ?_) (fun c => ?_)
      · skip
        refine q_bipush (v := (-2)) (dx D_m_meet 41 rfl) (by decide) ?_
        exact e_iret (dx D_m_meet 42 rfl) rfl rfl ⟨_, rfl, h⟩
      · exact absurd c (by decide)
    · replace h := h.1 (bP_n c)
      refine e_iload_n (dx D_m_meet 19 rfl) rfl ?_
      refine e_i2l (dx D_m_meet 20 rfl) ?_
      refine q_lconst (v := 0) (dx D_m_meet 21 rfl) (by decide) ?_
      refine e_ldc2 (v := 999) (dx D_m_meet 22 rfl) k1118 ?_
      refine e_callSi (Q1 := fun r g' => bP (0 ≤ x3 ∧ x3 ≤ 999) = r ∧ g1 = g') (rest := []) [.long (Int32.toInt64 x3), .long 0, .long 999] (dx D_m_meet 23 rfl) ln_m_meet_70 rfl rfl (Nat.le_of_ble_eq_true rfl) (Im_in  ⟨(in32 (a := x3) (b := 0) (c := 999) rfl (by decide) (by decide)).symm, rfl⟩) (fun r g' hh => ?_)
      obtain ⟨rfl, rfl⟩ := hh
      refine e_if_eq (tgt := 57) (dx D_m_meet 24 rfl) (by decide) (fun c => ?_) (fun c => ?_)
      · replace h := h.2 (bP_z c)
        refine q_iconst (v := 0) (dx D_m_meet 30 rfl) (by decide) ?_
        refine q_istore (L' := [some (.ref 34), some (.int x1), some (.int x2), some (.int x3), some (.int x4), some (.int 0)]) (dx D_m_meet 31 rfl) (by decide) rfl ?_
        refine e_iload (dx D_m_meet 32 rfl) rfl ?_
        refine e_if_eq (tgt := 77) (dx D_m_meet 33 rfl) (by decide) (fun c => ?_) (fun c => ?_)
        · skip
          refine q_bipush (v := (-2)) (dx D_m_meet 41 rfl) (by decide) ?_
          exact e_iret (dx D_m_meet 42 rfl) rfl rfl ⟨_, rfl, h⟩
        · exact absurd c (by decide)
      · replace h := h.1 (bP_n c)
        refine e_iload (dx D_m_meet 25 rfl) rfl ?_
        refine e_callSi (Q1 := fun r g' => bP (0 ≤ x4 ∧ x4 ≤ 1) = r ∧ g1 = g') (rest := []) [.int x4] (dx D_m_meet 26 rfl) ln_m_meet_192 rfl rfl (Nat.le_of_ble_eq_true rfl) (Im_isTwo  ⟨rfl, rfl⟩) (fun r g' hh => ?_)
        obtain ⟨rfl, rfl⟩ := hh
        refine e_if_eq (tgt := 57) (dx D_m_meet 27 rfl) (by decide) (fun c => ?_) (fun c => ?_)
        · replace h := h.2 (bP_z c)
          refine q_iconst (v := 0) (dx D_m_meet 30 rfl) (by decide) ?_
          refine q_istore (L' := [some (.ref 34), some (.int x1), some (.int x2), some (.int x3), some (.int x4), some (.int 0)]) (dx D_m_meet 31 rfl) (by decide) rfl ?_
          refine e_iload (dx D_m_meet 32 rfl) rfl ?_
          refine e_if_eq (tgt := 77) (dx D_m_meet 33 rfl) (by decide) (fun c => ?_) (fun c => ?_)
          · skip
            refine q_bipush (v := (-2)) (dx D_m_meet 41 rfl) (by decide) ?_
            exact e_iret (dx D_m_meet 42 rfl) rfl rfl ⟨_, rfl, h⟩
          · exact absurd c (by decide)
        · replace h := h.1 (bP_n c)
          refine q_iconst (v := 1) (dx D_m_meet 28 rfl) (by decide) ?_
          refine e_goto (tgt := 58) (dx D_m_meet 29 rfl) (by decide) ?_
          refine q_istore (L' := [some (.ref 34), some (.int x1), some (.int x2), some (.int x3), some (.int x4), some (.int 1)]) (dx D_m_meet 31 rfl) (by decide) rfl ?_
          refine e_iload (dx D_m_meet 32 rfl) rfl ?_
          refine e_if_eq (tgt := 77) (dx D_m_meet 33 rfl) (by decide) (fun c => ?_) (fun c => ?_)
          · exact absurd c (by decide)
          · skip
            refine e_aload_n (dx D_m_meet 34 rfl) rfl ?_
            refine e_iload_n (dx D_m_meet 35 rfl) rfl ?_
            refine e_iload_n (dx D_m_meet 36 rfl) rfl ?_
            refine e_iload_n (dx D_m_meet 37 rfl) rfl ?_
            refine e_iload (dx D_m_meet 38 rfl) rfl ?_
            refine e_callVi (rest := []) [.int x1, .int x2, .int x3, .int x4] (dx D_m_meet 39 rfl) ln_m_meet_271 rfl rfl rfl (Nat.le_of_ble_eq_true rfl) h (fun r4 g3 h => ?_)
            refine e_goto (tgt := 79) (dx D_m_meet 40 rfl) (by decide) ?_
            exact e_iret (dx D_m_meet 42 rfl) rfl rfl ⟨_, rfl, h⟩
abbrev Cm_drowsyOf (x1 : Int32) (x2 : Int32) (x3 : Int32) (g : Sg) (Q : Int32 → Sg → Prop) : Prop := Ci Mm_drowsyOf [.ref 34, .int x1, .int x2, .int x3] g Q
abbrev Hm_drowsyOf_9 (x3 : Int32) (x4 : Int32) (x5 : Int32) (x6 : Int32) (g : Sg) (Q : Int32 → Sg → Prop) : Prop := Hi Mm_drowsyOf 9 [some (.ref 34), none, none, some (.int x3), some (.int x4), some (.int x5), some (.int x6), none, none, none] [] g Q
abbrev Hm_drowsyOf_21 (x3 : Int32) (x4 : Int32) (x5 : Int32) (x6 : Int32) (x7 : Int32) (x8 : Int32) (g : Sg) (Q : Int32 → Sg → Prop) : Prop := Hi Mm_drowsyOf 21 [some (.ref 34), none, none, some (.int x3), some (.int x4), some (.int x5), some (.int x6), some (.int x7), some (.int x8), none] [] g Q
abbrev Hm_drowsyOf_102 (x3 : Int32) (x4 : Int32) (x5 : Int32) (x6 : Int32) (x8 : Int32) (x9 : Int32) (g : Sg) (Q : Int32 → Sg → Prop) : Prop := Hi Mm_drowsyOf 102 [some (.ref 34), none, none, some (.int x3), some (.int x4), some (.int x5), some (.int x6), none, some (.int x8), some (.int x9)] [] g Q
set_option maxRecDepth 20000 in
theorem Vm_drowsyOf {x1 : Int32} {x2 : Int32} {x3 : Int32} {g : Sg} {Q : Int32 → Sg → Prop} (h : Hm_drowsyOf_9 x3 x1 x2 0 g Q) : Cm_drowsyOf x1 x2 x3 g Q := by
  refine Cl.of 6 pl_X9 rfl ?_
  refine e_iload_n (dx D_m_drowsyOf 0 rfl) rfl ?_
  refine q_istore (L' := [some (.ref 34), some (.int x1), some (.int x2), some (.int x3), some (.int x1), none, none, none, none, none]) (dx D_m_drowsyOf 1 rfl) (by decide) rfl ?_
  refine e_iload_n (dx D_m_drowsyOf 2 rfl) rfl ?_
  refine q_istore (L' := [some (.ref 34), some (.int x1), some (.int x2), some (.int x3), some (.int x1), some (.int x2), none, none, none, none]) (dx D_m_drowsyOf 3 rfl) (by decide) rfl ?_
  refine q_iconst (v := 0) (dx D_m_drowsyOf 4 rfl) (by decide) ?_
  refine q_istore (L' := [some (.ref 34), some (.int x1), some (.int x2), some (.int x3), some (.int x1), some (.int x2), some (.int 0), none, none, none]) (dx D_m_drowsyOf 5 rfl) (by decide) rfl ?_
  exact Wp.mask [true, false, false, true, true, true, true, false, false, false] h
set_option maxRecDepth 20000 in
theorem Vm_drowsyOf_9 {x3 : Int32} {x4 : Int32} {x5 : Int32} {x6 : Int32} {g : Sg} {Q : Int32 → Sg → Prop} (h : ((x3 ≤ x6 → Q x5 g) ∧ (¬ x3 ≤ x6 → Hm_drowsyOf_21 x3 x4 x5 x6 0 0 g Q))) : Hm_drowsyOf_9 x3 x4 x5 x6 g Q := by
  refine e_iload (dx D_m_drowsyOf 6 rfl) rfl ?_
  refine e_iload_n (dx D_m_drowsyOf 7 rfl) rfl ?_
  refine e_icmp_ge (tgt := 191) (dx D_m_drowsyOf 8 rfl) (by decide) (fun c => ?_) (fun c => ?_)
  · replace h := h.1 c
    refine e_iload (dx D_m_drowsyOf 97 rfl) rfl ?_
    exact e_iret (dx D_m_drowsyOf 98 rfl) rfl rfl ⟨_, rfl, h⟩
  · replace h := h.2 c
    refine q_iconst (v := 0) (dx D_m_drowsyOf 9 rfl) (by decide) ?_
    refine q_istore (L' := [some (.ref 34), none, none, some (.int x3), some (.int x4), some (.int x5), some (.int x6), some (.int 0), none, none]) (dx D_m_drowsyOf 10 rfl) (by decide) rfl ?_
    refine q_iconst (v := 0) (dx D_m_drowsyOf 11 rfl) (by decide) ?_
    refine q_istore (L' := [some (.ref 34), none, none, some (.int x3), some (.int x4), some (.int x5), some (.int x6), some (.int 0), some (.int 0), none]) (dx D_m_drowsyOf 12 rfl) (by decide) rfl ?_
    exact h
set_option maxRecDepth 20000 in
theorem Vm_drowsyOf_21 {x3 : Int32} {x4 : Int32} {x5 : Int32} {x6 : Int32} {x7 : Int32} {x8 : Int32} {g : Sg} {Q : Int32 → Sg → Prop} (h : (((g 34 8) ≤ x8 → ((x7 ≤ 0 → Hm_drowsyOf_9 x3 x4 x5 (x6 + 1) g Q) ∧ (¬ x7 ≤ 0 → ¬ x7 = 0 ∧ Hm_drowsyOf_102 x3 ((1103515245 * x4) + 12345) x5 x6 ((Int32.toUInt32 ((1103515245 * x4) + 12345) >>> (Int32.toUInt32 16 &&& Int32.toUInt32 31)).toInt32 - (Int32.toUInt32 ((1103515245 * x4) + 12345) >>> (Int32.toUInt32 16 &&& Int32.toUInt32 31)).toInt32 / x7 * x7) 0 g Q))) ∧ (¬ (g 34 8) ≤ x8 → (((tbb (g 41 0) x8 = true) → Hm_drowsyOf_21 x3 x4 x5 x6 (x7 + 0) (x8 + 1) g Q) ∧ (¬ (tbb (g 41 0) x8 = true) → vp_in (4 * x8) 64 ∧ vp_in (4 * x8 + 1) 64 ∧ (((mOth g x8 x5) = (-1) → Hm_drowsyOf_21 x3 x4 x5 x6 (x7 + 0) (x8 + 1) g Q) ∧ (¬ (mOth g x8 x5) = (-1) → Hm_drowsyOf_21 x3 x4 x5 x6 (x7 + 1) (x8 + 1) g Q))))))) : Hm_drowsyOf_21 x3 x4 x5 x6 x7 x8 g Q := by
  refine e_iload (dx D_m_drowsyOf 13 rfl) rfl ?_
  refine e_aload_n (dx D_m_drowsyOf 14 rfl) rfl ?_
  refine e_getI (dx D_m_drowsyOf 15 rfl) fl_RX9_104 rfl rfl ?_
  refine e_icmp_ge (tgt := 72) (dx D_m_drowsyOf 16 rfl) (by decide) (fun c => ?_) (fun c => ?_)
  · replace h := h.1 c
    refine e_iload (dx D_m_drowsyOf 38 rfl) rfl ?_
    refine e_if_le (tgt := 185) (dx D_m_drowsyOf 39 rfl) (by decide) (fun c => ?_) (fun c => ?_)
    · replace h := h.1 c
      refine q_iinc (d := 1) (L' := [some (.ref 34), none, none, some (.int x3), some (.int x4), some (.int x5), some (.int (x6 + 1)), some (.int x7), some (.int x8), none]) (dx D_m_drowsyOf 95 rfl) rfl (by decide) (by decide) rfl ?_
      refine e_goto (tgt := 9) (dx D_m_drowsyOf 96 rfl) (by decide) ?_
      exact Wp.mask [true, false, false, true, true, true, true, false, false, false] h
    · replace h := h.2 c
      refine e_ldcw (v := 1103515245) (dx D_m_drowsyOf 40 rfl) k1358 ?_
      refine e_iload (dx D_m_drowsyOf 41 rfl) rfl ?_
      refine e_imul (dx D_m_drowsyOf 42 rfl) ?_
      refine q_sipush (v := 12345) (dx D_m_drowsyOf 43 rfl) (by decide) ?_
      refine e_iadd (dx D_m_drowsyOf 44 rfl) ?_
      refine q_istore (L' := [some (.ref 34), none, none, some (.int x3), some (.int ((1103515245 * x4) + 12345)), some (.int x5), some (.int x6), some (.int x7), some (.int x8), none]) (dx D_m_drowsyOf 45 rfl) (by decide) rfl ?_
      refine e_iload (dx D_m_drowsyOf 46 rfl) rfl ?_
      refine q_bipush (v := 16) (dx D_m_drowsyOf 47 rfl) (by decide) ?_
      refine e_iushr (dx D_m_drowsyOf 48 rfl) ?_
      refine e_iload (dx D_m_drowsyOf 49 rfl) rfl ?_
      obtain ⟨hb1, h⟩ := h
      refine e_irem (dx D_m_drowsyOf 50 rfl) hb1 ?_
      refine q_istore (L' := [some (.ref 34), none, none, some (.int x3), some (.int ((1103515245 * x4) + 12345)), some (.int x5), some (.int x6), some (.int x7), some (.int ((Int32.toUInt32 ((1103515245 * x4) + 12345) >>> (Int32.toUInt32 16 &&& Int32.toUInt32 31)).toInt32 - (Int32.toUInt32 ((1103515245 * x4) + 12345) >>> (Int32.toUInt32 16 &&& Int32.toUInt32 31)).toInt32 / x7 * x7)), none]) (dx D_m_drowsyOf 51 rfl) (by decide) rfl ?_
      refine q_iconst (v := 0) (dx D_m_drowsyOf 52 rfl) (by decide) ?_
      refine q_istore (L' := [some (.ref 34), none, none, some (.int x3), some (.int ((1103515245 * x4) + 12345)), some (.int x5), some (.int x6), some (.int x7), some (.int ((Int32.toUInt32 ((1103515245 * x4) + 12345) >>> (Int32.toUInt32 16 &&& Int32.toUInt32 31)).toInt32 - (Int32.toUInt32 ((1103515245 * x4) + 12345) >>> (Int32.toUInt32 16 &&& Int32.toUInt32 31)).toInt32 / x7 * x7)), some (.int 0)]) (dx D_m_drowsyOf 53 rfl) (by decide) rfl ?_
      exact Wp.mask [true, false, false, true, true, true, true, false, true, true] h
  · replace h := h.2 c
    refine e_iload (dx D_m_drowsyOf 17 rfl) rfl ?_
    refine e_aload_n (dx D_m_drowsyOf 18 rfl) rfl ?_
    refine e_getR (dx D_m_drowsyOf 19 rfl) fl_RX9_28 rfl rfl ?_
    refine q_iconst (v := 0) (dx D_m_drowsyOf 20 rfl) (by decide) ?_
    refine e_iald (dx D_m_drowsyOf 21 rfl) rfl (by unfold vp_in; decide) ?_
    refine e_iload (dx D_m_drowsyOf 22 rfl) rfl ?_
    refine e_callSi (Q1 := fun r g' => bP (tbb (g 41 0) x8 = true) = r ∧ g = g') (rest := [.int x7]) [.int (g 41 0), .int x8] (dx D_m_drowsyOf 23 rfl) ln_m_drowsyOf_149 rfl rfl (Nat.le_of_ble_eq_true rfl) (Im_isIn  ⟨rfl, rfl⟩) (fun r g' hh => ?_)
    obtain ⟨rfl, rfl⟩ := hh
    refine e_if_ne (tgt := 62) (dx D_m_drowsyOf 24 rfl) (by decide) (fun c => ?_) (fun c => ?_)
    · replace h := h.1 (bP_n c)
      refine q_iconst (v := 0) (dx D_m_drowsyOf 33 rfl) (by decide) ?_
      refine e_iadd (dx D_m_drowsyOf 34 rfl) ?_
      refine q_istore (L' := [some (.ref 34), none, none, some (.int x3), some (.int x4), some (.int x5), some (.int x6), some (.int (x7 + 0)), some (.int x8), none]) (dx D_m_drowsyOf 35 rfl) (by decide) rfl ?_
      refine q_iinc (d := 1) (L' := [some (.ref 34), none, none, some (.int x3), some (.int x4), some (.int x5), some (.int x6), some (.int (x7 + 0)), some (.int (x8 + 1)), none]) (dx D_m_drowsyOf 36 rfl) rfl (by decide) (by decide) rfl ?_
      refine e_goto (tgt := 21) (dx D_m_drowsyOf 37 rfl) (by decide) ?_
      exact h
    · replace h := h.2 (bP_z c)
      refine e_aload_n (dx D_m_drowsyOf 25 rfl) rfl ?_
      refine e_iload (dx D_m_drowsyOf 26 rfl) rfl ?_
      refine e_iload (dx D_m_drowsyOf 27 rfl) rfl ?_
      obtain ⟨hb2, h⟩ := h
      obtain ⟨hb3, h⟩ := h
      refine e_callVi (Q1 := fun r g' => (mOth g x8 x5) = r ∧ g = g') (rest := [.int x7]) [.int x8, .int x5] (dx D_m_drowsyOf 28 rfl) ln_m_drowsyOf_159 rfl rfl rfl (Nat.le_of_ble_eq_true rfl) (Im_other hb2 hb3 ⟨rfl, rfl⟩) (fun r g' hh => ?_)
      obtain ⟨rfl, rfl⟩ := hh
      refine q_iconst (v := (-1)) (dx D_m_drowsyOf 29 rfl) (by decide) ?_
      refine e_icmp_eq (tgt := 62) (dx D_m_drowsyOf 30 rfl) (by decide) (fun c => ?_) (fun c => ?_)
      · replace h := h.1 c
        refine q_iconst (v := 0) (dx D_m_drowsyOf 33 rfl) (by decide) ?_
        refine e_iadd (dx D_m_drowsyOf 34 rfl) ?_
        refine q_istore (L' := [some (.ref 34), none, none, some (.int x3), some (.int x4), some (.int x5), some (.int x6), some (.int (x7 + 0)), some (.int x8), none]) (dx D_m_drowsyOf 35 rfl) (by decide) rfl ?_
        refine q_iinc (d := 1) (L' := [some (.ref 34), none, none, some (.int x3), some (.int x4), some (.int x5), some (.int x6), some (.int (x7 + 0)), some (.int (x8 + 1)), none]) (dx D_m_drowsyOf 36 rfl) rfl (by decide) (by decide) rfl ?_
        refine e_goto (tgt := 21) (dx D_m_drowsyOf 37 rfl) (by decide) ?_
        exact h
      · replace h := h.2 c
        refine q_iconst (v := 1) (dx D_m_drowsyOf 31 rfl) (by decide) ?_
        refine e_goto (tgt := 63) (dx D_m_drowsyOf 32 rfl) (by decide) ?_
        refine e_iadd (dx D_m_drowsyOf 34 rfl) ?_
        refine q_istore (L' := [some (.ref 34), none, none, some (.int x3), some (.int x4), some (.int x5), some (.int x6), some (.int (x7 + 1)), some (.int x8), none]) (dx D_m_drowsyOf 35 rfl) (by decide) rfl ?_
        refine q_iinc (d := 1) (L' := [some (.ref 34), none, none, some (.int x3), some (.int x4), some (.int x5), some (.int x6), some (.int (x7 + 1)), some (.int (x8 + 1)), none]) (dx D_m_drowsyOf 36 rfl) rfl (by decide) (by decide) rfl ?_
        refine e_goto (tgt := 21) (dx D_m_drowsyOf 37 rfl) (by decide) ?_
        exact h
set_option maxRecDepth 20000 in
theorem Vm_drowsyOf_102 {x3 : Int32} {x4 : Int32} {x5 : Int32} {x6 : Int32} {x8 : Int32} {x9 : Int32} {g : Sg} {Q : Int32 → Sg → Prop} (h : (((tbb (g 41 0) x9 = true) → (((tbb (g 41 0) x9 = true) → Hm_drowsyOf_102 x3 x4 x5 x6 (x8 - 0) (x9 + 1) g Q) ∧ (¬ (tbb (g 41 0) x9 = true) → vp_in (4 * x9) 64 ∧ vp_in (4 * x9 + 1) 64 ∧ (((mOth g x9 x5) = (-1) → Hm_drowsyOf_102 x3 x4 x5 x6 (x8 - 0) (x9 + 1) g Q) ∧ (¬ (mOth g x9 x5) = (-1) → Hm_drowsyOf_102 x3 x4 x5 x6 (x8 - 1) (x9 + 1) g Q))))) ∧ (¬ (tbb (g 41 0) x9 = true) → vp_in (4 * x9) 64 ∧ vp_in (4 * x9 + 1) 64 ∧ (((mOth g x9 x5) = (-1) → (((tbb (g 41 0) x9 = true) → Hm_drowsyOf_102 x3 x4 x5 x6 (x8 - 0) (x9 + 1) g Q) ∧ (¬ (tbb (g 41 0) x9 = true) → vp_in (4 * x9) 64 ∧ vp_in (4 * x9 + 1) 64 ∧ (((mOth g x9 x5) = (-1) → Hm_drowsyOf_102 x3 x4 x5 x6 (x8 - 0) (x9 + 1) g Q) ∧ (¬ (mOth g x9 x5) = (-1) → Hm_drowsyOf_102 x3 x4 x5 x6 (x8 - 1) (x9 + 1) g Q))))) ∧ (¬ (mOth g x9 x5) = (-1) → ((x8 ≤ 0 → vp_in (4 * x9) 64 ∧ vp_in (4 * x9 + 1) 64 ∧ Hm_drowsyOf_9 x3 x4 (mOth g x9 x5) (x6 + 1) g Q) ∧ (¬ x8 ≤ 0 → (((tbb (g 41 0) x9 = true) → Hm_drowsyOf_102 x3 x4 x5 x6 (x8 - 0) (x9 + 1) g Q) ∧ (¬ (tbb (g 41 0) x9 = true) → vp_in (4 * x9) 64 ∧ vp_in (4 * x9 + 1) 64 ∧ (((mOth g x9 x5) = (-1) → Hm_drowsyOf_102 x3 x4 x5 x6 (x8 - 0) (x9 + 1) g Q) ∧ (¬ (mOth g x9 x5) = (-1) → Hm_drowsyOf_102 x3 x4 x5 x6 (x8 - 1) (x9 + 1) g Q))))))))))) : Hm_drowsyOf_102 x3 x4 x5 x6 x8 x9 g Q := by
  refine e_aload_n (dx D_m_drowsyOf 54 rfl) rfl ?_
  refine e_getR (dx D_m_drowsyOf 55 rfl) fl_RX9_28 rfl rfl ?_
  refine q_iconst (v := 0) (dx D_m_drowsyOf 56 rfl) (by decide) ?_
  refine e_iald (dx D_m_drowsyOf 57 rfl) rfl (by unfold vp_in; decide) ?_
  refine e_iload (dx D_m_drowsyOf 58 rfl) rfl ?_
  refine e_callSi (Q1 := fun r g' => bP (tbb (g 41 0) x9 = true) = r ∧ g = g') (rest := []) [.int (g 41 0), .int x9] (dx D_m_drowsyOf 59 rfl) ln_m_drowsyOf_149 rfl rfl (Nat.le_of_ble_eq_true rfl) (Im_isIn  ⟨rfl, rfl⟩) (fun r g' hh => ?_)
  obtain ⟨rfl, rfl⟩ := hh
  refine e_if_ne (tgt := 133) (dx D_m_drowsyOf 60 rfl) (by decide) (fun c => ?_) (fun c => ?_)
  · replace h := h.1 (bP_n c)
    refine e_iload (dx D_m_drowsyOf 69 rfl) rfl ?_
    refine e_aload_n (dx D_m_drowsyOf 70 rfl) rfl ?_
    refine e_getR (dx D_m_drowsyOf 71 rfl) fl_RX9_28 rfl rfl ?_
    refine q_iconst (v := 0) (dx D_m_drowsyOf 72 rfl) (by decide) ?_
    refine e_iald (dx D_m_drowsyOf 73 rfl) rfl (by unfold vp_in; decide) ?_
    refine e_iload (dx D_m_drowsyOf 74 rfl) rfl ?_
    refine e_callSi (Q1 := fun r g' => bP (tbb (g 41 0) x9 = true) = r ∧ g = g') (rest := [.int x8]) [.int (g 41 0), .int x9] (dx D_m_drowsyOf 75 rfl) ln_m_drowsyOf_149 rfl rfl (Nat.le_of_ble_eq_true rfl) (Im_isIn  ⟨rfl, rfl⟩) (fun r g' hh => ?_)
    obtain ⟨rfl, rfl⟩ := hh
    refine e_if_ne (tgt := 161) (dx D_m_drowsyOf 76 rfl) (by decide) (fun c => ?_) (fun c => ?_)
    · replace h := h.1 (bP_n c)
      refine q_iconst (v := 0) (dx D_m_drowsyOf 83 rfl) (by decide) ?_
      refine e_goto (tgt := 166) (dx D_m_drowsyOf 84 rfl) (by decide) ?_
      refine e_isub (dx D_m_drowsyOf 86 rfl) ?_
      refine q_istore (L' := [some (.ref 34), none, none, some (.int x3), some (.int x4), some (.int x5), some (.int x6), none, some (.int (x8 - 0)), some (.int x9)]) (dx D_m_drowsyOf 87 rfl) (by decide) rfl ?_
      refine q_iinc (d := 1) (L' := [some (.ref 34), none, none, some (.int x3), some (.int x4), some (.int x5), some (.int x6), none, some (.int (x8 - 0)), some (.int (x9 + 1))]) (dx D_m_drowsyOf 88 rfl) rfl (by decide) (by decide) rfl ?_
      refine e_goto (tgt := 102) (dx D_m_drowsyOf 89 rfl) (by decide) ?_
      exact h
    · replace h := h.2 (bP_z c)
      refine e_aload_n (dx D_m_drowsyOf 77 rfl) rfl ?_
      refine e_iload (dx D_m_drowsyOf 78 rfl) rfl ?_
      refine e_iload (dx D_m_drowsyOf 79 rfl) rfl ?_
      obtain ⟨hb1, h⟩ := h
      obtain ⟨hb2, h⟩ := h
      refine e_callVi (Q1 := fun r g' => (mOth g x9 x5) = r ∧ g = g') (rest := [.int x8]) [.int x9, .int x5] (dx D_m_drowsyOf 80 rfl) ln_m_drowsyOf_159 rfl rfl rfl (Nat.le_of_ble_eq_true rfl) (Im_other hb1 hb2 ⟨rfl, rfl⟩) (fun r g' hh => ?_)
      obtain ⟨rfl, rfl⟩ := hh
      refine q_iconst (v := (-1)) (dx D_m_drowsyOf 81 rfl) (by decide) ?_
      refine e_icmp_ne (tgt := 165) (dx D_m_drowsyOf 82 rfl) (by decide) (fun c => ?_) (fun c => ?_)
      · replace h := h.2 c
        refine q_iconst (v := 1) (dx D_m_drowsyOf 85 rfl) (by decide) ?_
        refine e_isub (dx D_m_drowsyOf 86 rfl) ?_
        refine q_istore (L' := [some (.ref 34), none, none, some (.int x3), some (.int x4), some (.int x5), some (.int x6), none, some (.int (x8 - 1)), some (.int x9)]) (dx D_m_drowsyOf 87 rfl) (by decide) rfl ?_
        refine q_iinc (d := 1) (L' := [some (.ref 34), none, none, some (.int x3), some (.int x4), some (.int x5), some (.int x6), none, some (.int (x8 - 1)), some (.int (x9 + 1))]) (dx D_m_drowsyOf 88 rfl) rfl (by decide) (by decide) rfl ?_
        refine e_goto (tgt := 102) (dx D_m_drowsyOf 89 rfl) (by decide) ?_
        exact h
      · replace h := h.1 c
        refine q_iconst (v := 0) (dx D_m_drowsyOf 83 rfl) (by decide) ?_
        refine e_goto (tgt := 166) (dx D_m_drowsyOf 84 rfl) (by decide) ?_
        refine e_isub (dx D_m_drowsyOf 86 rfl) ?_
        refine q_istore (L' := [some (.ref 34), none, none, some (.int x3), some (.int x4), some (.int x5), some (.int x6), none, some (.int (x8 - 0)), some (.int x9)]) (dx D_m_drowsyOf 87 rfl) (by decide) rfl ?_
        refine q_iinc (d := 1) (L' := [some (.ref 34), none, none, some (.int x3), some (.int x4), some (.int x5), some (.int x6), none, some (.int (x8 - 0)), some (.int (x9 + 1))]) (dx D_m_drowsyOf 88 rfl) rfl (by decide) (by decide) rfl ?_
        refine e_goto (tgt := 102) (dx D_m_drowsyOf 89 rfl) (by decide) ?_
        exact h
  · replace h := h.2 (bP_z c)
    refine e_aload_n (dx D_m_drowsyOf 61 rfl) rfl ?_
    refine e_iload (dx D_m_drowsyOf 62 rfl) rfl ?_
    refine e_iload (dx D_m_drowsyOf 63 rfl) rfl ?_
    obtain ⟨hb3, h⟩ := h
    obtain ⟨hb4, h⟩ := h
    refine e_callVi (Q1 := fun r g' => (mOth g x9 x5) = r ∧ g = g') (rest := []) [.int x9, .int x5] (dx D_m_drowsyOf 64 rfl) ln_m_drowsyOf_159 rfl rfl rfl (Nat.le_of_ble_eq_true rfl) (Im_other hb3 hb4 ⟨rfl, rfl⟩) (fun r g' hh => ?_)
    obtain ⟨rfl, rfl⟩ := hh
    refine q_iconst (v := (-1)) (dx D_m_drowsyOf 65 rfl) (by decide) ?_
    refine e_icmp_eq (tgt := 133) (dx D_m_drowsyOf 66 rfl) (by decide) (fun c => ?_) (fun c => ?_)
    · replace h := h.1 c
      refine e_iload (dx D_m_drowsyOf 69 rfl) rfl ?_
      refine e_aload_n (dx D_m_drowsyOf 70 rfl) rfl ?_
      refine e_getR (dx D_m_drowsyOf 71 rfl) fl_RX9_28 rfl rfl ?_
      refine q_iconst (v := 0) (dx D_m_drowsyOf 72 rfl) (by decide) ?_
      refine e_iald (dx D_m_drowsyOf 73 rfl) rfl (by unfold vp_in; decide) ?_
      refine e_iload (dx D_m_drowsyOf 74 rfl) rfl ?_
      refine e_callSi (Q1 := fun r g' => bP (tbb (g 41 0) x9 = true) = r ∧ g = g') (rest := [.int x8]) [.int (g 41 0), .int x9] (dx D_m_drowsyOf 75 rfl) ln_m_drowsyOf_149 rfl rfl (Nat.le_of_ble_eq_true rfl) (Im_isIn  ⟨rfl, rfl⟩) (fun r g' hh => ?_)
      obtain ⟨rfl, rfl⟩ := hh
      refine e_if_ne (tgt := 161) (dx D_m_drowsyOf 76 rfl) (by decide) (fun c => ?_) (fun c => ?_)
      · replace h := h.1 (bP_n c)
        refine q_iconst (v := 0) (dx D_m_drowsyOf 83 rfl) (by decide) ?_
        refine e_goto (tgt := 166) (dx D_m_drowsyOf 84 rfl) (by decide) ?_
        refine e_isub (dx D_m_drowsyOf 86 rfl) ?_
        refine q_istore (L' := [some (.ref 34), none, none, some (.int x3), some (.int x4), some (.int x5), some (.int x6), none, some (.int (x8 - 0)), some (.int x9)]) (dx D_m_drowsyOf 87 rfl) (by decide) rfl ?_
        refine q_iinc (d := 1) (L' := [some (.ref 34), none, none, some (.int x3), some (.int x4), some (.int x5), some (.int x6), none, some (.int (x8 - 0)), some (.int (x9 + 1))]) (dx D_m_drowsyOf 88 rfl) rfl (by decide) (by decide) rfl ?_
        refine e_goto (tgt := 102) (dx D_m_drowsyOf 89 rfl) (by decide) ?_
        exact h
      · replace h := h.2 (bP_z c)
        refine e_aload_n (dx D_m_drowsyOf 77 rfl) rfl ?_
        refine e_iload (dx D_m_drowsyOf 78 rfl) rfl ?_
        refine e_iload (dx D_m_drowsyOf 79 rfl) rfl ?_
        obtain ⟨hb5, h⟩ := h
        obtain ⟨hb6, h⟩ := h
        refine e_callVi (Q1 := fun r g' => (mOth g x9 x5) = r ∧ g = g') (rest := [.int x8]) [.int x9, .int x5] (dx D_m_drowsyOf 80 rfl) ln_m_drowsyOf_159 rfl rfl rfl (Nat.le_of_ble_eq_true rfl) (Im_other hb5 hb6 ⟨rfl, rfl⟩) (fun r g' hh => ?_)
        obtain ⟨rfl, rfl⟩ := hh
        refine q_iconst (v := (-1)) (dx D_m_drowsyOf 81 rfl) (by decide) ?_
        refine e_icmp_ne (tgt := 165) (dx D_m_drowsyOf 82 rfl) (by decide) (fun c => ?_) (fun c => ?_)
        · replace h := h.2 c
          refine q_iconst (v := 1) (dx D_m_drowsyOf 85 rfl) (by decide) ?_
          refine e_isub (dx D_m_drowsyOf 86 rfl) ?_
          refine q_istore (L' := [some (.ref 34), none, none, some (.int x3), some (.int x4), some (.int x5), some (.int x6), none, some (.int (x8 - 1)), some (.int x9)]) (dx D_m_drowsyOf 87 rfl) (by decide) rfl ?_
          refine q_iinc (d := 1) (L' := [some (.ref 34), none, none, some (.int x3), some (.int x4), some (.int x5), some (.int x6), none, some (.int (x8 - 1)), some (.int (x9 + 1))]) (dx D_m_drowsyOf 88 rfl) rfl (by decide) (by decide) rfl ?_
          refine e_goto (tgt := 102) (dx D_m_drowsyOf 89 rfl) (by decide) ?_
          exact h
        · replace h := h.1 c
          refine q_iconst (v := 0) (dx D_m_drowsyOf 83 rfl) (by decide) ?_
          refine e_goto (tgt := 166) (dx D_m_drowsyOf 84 rfl) (by decide) ?_
          refine e_isub (dx D_m_drowsyOf 86 rfl) ?_
          refine q_istore (L' := [some (.ref 34), none, none, some (.int x3), some (.int x4), some (.int x5), some (.int x6), none, some (.int (x8 - 0)), some (.int x9)]) (dx D_m_drowsyOf 87 rfl) (by decide) rfl ?_
          refine q_iinc (d := 1) (L' := [some (.ref 34), none, none, some (.int x3), some (.int x4), some (.int x5), some (.int x6), none, some (.int (x8 - 0)), some (.int (x9 + 1))]) (dx D_m_drowsyOf 88 rfl) rfl (by decide) (by decide) rfl ?_
          refine e_goto (tgt := 102) (dx D_m_drowsyOf 89 rfl) (by decide) ?_
          exact h
    · replace h := h.2 c
      refine e_iload (dx D_m_drowsyOf 67 rfl) rfl ?_
      refine e_if_le (tgt := 175) (dx D_m_drowsyOf 68 rfl) (by decide) (fun c => ?_) (fun c => ?_)
      · replace h := h.1 c
        refine e_aload_n (dx D_m_drowsyOf 90 rfl) rfl ?_
        refine e_iload (dx D_m_drowsyOf 91 rfl) rfl ?_
        refine e_iload (dx D_m_drowsyOf 92 rfl) rfl ?_
        obtain ⟨hb7, h⟩ := h
        obtain ⟨hb8, h⟩ := h
        refine e_callVi (Q1 := fun r g' => (mOth g x9 x5) = r ∧ g = g') (rest := []) [.int x9, .int x5] (dx D_m_drowsyOf 93 rfl) ln_m_drowsyOf_159 rfl rfl rfl (Nat.le_of_ble_eq_true rfl) (Im_other hb7 hb8 ⟨rfl, rfl⟩) (fun r g' hh => ?_)
        obtain ⟨rfl, rfl⟩ := hh
        refine q_istore (L' := [some (.ref 34), none, none, some (.int x3), some (.int x4), some (.int (mOth g x9 x5)), some (.int x6), none, some (.int x8), some (.int x9)]) (dx D_m_drowsyOf 94 rfl) (by decide) rfl ?_
        refine q_iinc (d := 1) (L' := [some (.ref 34), none, none, some (.int x3), some (.int x4), some (.int (mOth g x9 x5)), some (.int (x6 + 1)), none, some (.int x8), some (.int x9)]) (dx D_m_drowsyOf 95 rfl) rfl (by decide) (by decide) rfl ?_
        refine e_goto (tgt := 9) (dx D_m_drowsyOf 96 rfl) (by decide) ?_
        exact Wp.mask [true, false, false, true, true, true, true, false, false, false] h
      · replace h := h.2 c
        refine e_iload (dx D_m_drowsyOf 69 rfl) rfl ?_
        refine e_aload_n (dx D_m_drowsyOf 70 rfl) rfl ?_
        refine e_getR (dx D_m_drowsyOf 71 rfl) fl_RX9_28 rfl rfl ?_
        refine q_iconst (v := 0) (dx D_m_drowsyOf 72 rfl) (by decide) ?_
        refine e_iald (dx D_m_drowsyOf 73 rfl) rfl (by unfold vp_in; decide) ?_
        refine e_iload (dx D_m_drowsyOf 74 rfl) rfl ?_
        refine e_callSi (Q1 := fun r g' => bP (tbb (g 41 0) x9 = true) = r ∧ g = g') (rest := [.int x8]) [.int (g 41 0), .int x9] (dx D_m_drowsyOf 75 rfl) ln_m_drowsyOf_149 rfl rfl (Nat.le_of_ble_eq_true rfl) (Im_isIn  ⟨rfl, rfl⟩) (fun r g' hh => ?_)
        obtain ⟨rfl, rfl⟩ := hh
        refine e_if_ne (tgt := 161) (dx D_m_drowsyOf 76 rfl) (by decide) (fun c => ?_) (fun c => ?_)
        · replace h := h.1 (bP_n c)
          refine q_iconst (v := 0) (dx D_m_drowsyOf 83 rfl) (by decide) ?_
          refine e_goto (tgt := 166) (dx D_m_drowsyOf 84 rfl) (by decide) ?_
          refine e_isub (dx D_m_drowsyOf 86 rfl) ?_
          refine q_istore (L' := [some (.ref 34), none, none, some (.int x3), some (.int x4), some (.int x5), some (.int x6), none, some (.int (x8 - 0)), some (.int x9)]) (dx D_m_drowsyOf 87 rfl) (by decide) rfl ?_
          refine q_iinc (d := 1) (L' := [some (.ref 34), none, none, some (.int x3), some (.int x4), some (.int x5), some (.int x6), none, some (.int (x8 - 0)), some (.int (x9 + 1))]) (dx D_m_drowsyOf 88 rfl) rfl (by decide) (by decide) rfl ?_
          refine e_goto (tgt := 102) (dx D_m_drowsyOf 89 rfl) (by decide) ?_
          exact h
        · replace h := h.2 (bP_z c)
          refine e_aload_n (dx D_m_drowsyOf 77 rfl) rfl ?_
          refine e_iload (dx D_m_drowsyOf 78 rfl) rfl ?_
          refine e_iload (dx D_m_drowsyOf 79 rfl) rfl ?_
          obtain ⟨hb9, h⟩ := h
          obtain ⟨hb10, h⟩ := h
          refine e_callVi (Q1 := fun r g' => (mOth g x9 x5) = r ∧ g = g') (rest := [.int x8]) [.int x9, .int x5] (dx D_m_drowsyOf 80 rfl) ln_m_drowsyOf_159 rfl rfl rfl (Nat.le_of_ble_eq_true rfl) (Im_other hb9 hb10 ⟨rfl, rfl⟩) (fun r g' hh => ?_)
          obtain ⟨rfl, rfl⟩ := hh
          refine q_iconst (v := (-1)) (dx D_m_drowsyOf 81 rfl) (by decide) ?_
          refine e_icmp_ne (tgt := 165) (dx D_m_drowsyOf 82 rfl) (by decide) (fun c => ?_) (fun c => ?_)
          · replace h := h.2 c
            refine q_iconst (v := 1) (dx D_m_drowsyOf 85 rfl) (by decide) ?_
            refine e_isub (dx D_m_drowsyOf 86 rfl) ?_
            refine q_istore (L' := [some (.ref 34), none, none, some (.int x3), some (.int x4), some (.int x5), some (.int x6), none, some (.int (x8 - 1)), some (.int x9)]) (dx D_m_drowsyOf 87 rfl) (by decide) rfl ?_
            refine q_iinc (d := 1) (L' := [some (.ref 34), none, none, some (.int x3), some (.int x4), some (.int x5), some (.int x6), none, some (.int (x8 - 1)), some (.int (x9 + 1))]) (dx D_m_drowsyOf 88 rfl) rfl (by decide) (by decide) rfl ?_
            refine e_goto (tgt := 102) (dx D_m_drowsyOf 89 rfl) (by decide) ?_
            exact h
          · replace h := h.1 c
            refine q_iconst (v := 0) (dx D_m_drowsyOf 83 rfl) (by decide) ?_
            refine e_goto (tgt := 166) (dx D_m_drowsyOf 84 rfl) (by decide) ?_
            refine e_isub (dx D_m_drowsyOf 86 rfl) ?_
            refine q_istore (L' := [some (.ref 34), none, none, some (.int x3), some (.int x4), some (.int x5), some (.int x6), none, some (.int (x8 - 0)), some (.int x9)]) (dx D_m_drowsyOf 87 rfl) (by decide) rfl ?_
            refine q_iinc (d := 1) (L' := [some (.ref 34), none, none, some (.int x3), some (.int x4), some (.int x5), some (.int x6), none, some (.int (x8 - 0)), some (.int (x9 + 1))]) (dx D_m_drowsyOf 88 rfl) rfl (by decide) (by decide) rfl ?_
            refine e_goto (tgt := 102) (dx D_m_drowsyOf 89 rfl) (by decide) ?_
            exact h
abbrev Cm_drowsy (x1 : Int32) (x2 : Int32) (x3 : Int32) (g : Sg) (Q : Int32 → Sg → Prop) : Prop := Ci Mm_drowsy [.ref 34, .int x1, .int x2, .int x3] g Q
set_option maxRecDepth 20000 in
theorem Vm_drowsy {x1 : Int32} {x2 : Int32} {x3 : Int32} {g : Sg} {Q : Int32 → Sg → Prop} (h : Cm_reads g (fun r2 g1 => (((isE x2) → (((0 ≤ x3 ∧ x3 ≤ 20) → Cm_drowsyOf x1 x2 x3 g1 (fun r4 g3 => Q r4 g3)) ∧ (¬ (0 ≤ x3 ∧ x3 ≤ 20) → Q (-2) g1))) ∧ (¬ (isE x2) → Q (-2) g1)))) : Cm_drowsy x1 x2 x3 g Q := by
  refine Cl.of 0 pl_X9 rfl ?_
  refine e_aload_n (dx D_m_drowsy 0 rfl) rfl ?_
  refine e_callVi (rest := []) [] (dx D_m_drowsy 1 rfl) ln_m_drowsy_118 rfl rfl rfl (Nat.le_of_ble_eq_true rfl) h (fun r2 g1 h => ?_)
  refine e_pop (dx D_m_drowsy 2 rfl) rfl ?_
  refine e_iload_n (dx D_m_drowsy 3 rfl) rfl ?_
  refine e_callSi (Q1 := fun r g' => bP (isE x2) = r ∧ g1 = g') (rest := []) [.int x2] (dx D_m_drowsy 4 rfl) ln_m_drowsy_130 rfl rfl (Nat.le_of_ble_eq_true rfl) (Im_isEnd  ⟨rfl, rfl⟩) (fun r g' hh => ?_)
  obtain ⟨rfl, rfl⟩ := hh
  refine e_if_eq (tgt := 34) (dx D_m_drowsy 5 rfl) (by decide) (fun c => ?_) (fun c => ?_)
  · replace h := h.2 (bP_z c)
    refine q_bipush (v := (-2)) (dx D_m_drowsy 18 rfl) (by decide) ?_
    exact e_iret (dx D_m_drowsy 19 rfl) rfl rfl ⟨_, rfl, h⟩
  · replace h := h.1 (bP_n c)
    refine e_iload_n (dx D_m_drowsy 6 rfl) rfl ?_
    refine e_i2l (dx D_m_drowsy 7 rfl) ?_
    refine q_lconst (v := 0) (dx D_m_drowsy 8 rfl) (by decide) ?_
    refine e_ldc2 (v := 20) (dx D_m_drowsy 9 rfl) k1353 ?_
    refine e_callSi (Q1 := fun r g' => bP (0 ≤ x3 ∧ x3 ≤ 20) = r ∧ g1 = g') (rest := []) [.long (Int32.toInt64 x3), .long 0, .long 20] (dx D_m_drowsy 10 rfl) ln_m_drowsy_70 rfl rfl (Nat.le_of_ble_eq_true rfl) (Im_in  ⟨(in32 (a := x3) (b := 0) (c := 20) rfl (by decide) (by decide)).symm, rfl⟩) (fun r g' hh => ?_)
    obtain ⟨rfl, rfl⟩ := hh
    refine e_if_eq (tgt := 34) (dx D_m_drowsy 11 rfl) (by decide) (fun c => ?_) (fun c => ?_)
    · replace h := h.2 (bP_z c)
      refine q_bipush (v := (-2)) (dx D_m_drowsy 18 rfl) (by decide) ?_
      exact e_iret (dx D_m_drowsy 19 rfl) rfl rfl ⟨_, rfl, h⟩
    · replace h := h.1 (bP_n c)
      refine e_aload_n (dx D_m_drowsy 12 rfl) rfl ?_
      refine e_iload_n (dx D_m_drowsy 13 rfl) rfl ?_
      refine e_iload_n (dx D_m_drowsy 14 rfl) rfl ?_
      refine e_iload_n (dx D_m_drowsy 15 rfl) rfl ?_
      refine e_callVi (rest := []) [.int x1, .int x2, .int x3] (dx D_m_drowsy 16 rfl) ln_m_drowsy_278 rfl rfl rfl (Nat.le_of_ble_eq_true rfl) h (fun r4 g3 h => ?_)
      refine e_goto (tgt := 36) (dx D_m_drowsy 17 rfl) (by decide) ?_
      exact e_iret (dx D_m_drowsy 19 rfl) rfl rfl ⟨_, rfl, h⟩
abbrev Cm_chalk (x1 : Int32) (x2 : Int32) (x3 : Int32) (g : Sg) (Q : Int32 → Sg → Prop) : Prop := Ci Mm_chalk [.ref 34, .int x1, .int x2, .int x3] g Q
set_option maxRecDepth 20000 in
theorem Vm_chalk {x1 : Int32} {x2 : Int32} {x3 : Int32} {g : Sg} {Q : Int32 → Sg → Prop} (h : (((isW x1) → (((twoE x2 x3) → (((g 34 26) = 8 → Q (-4) g) ∧ (¬ (g 34 26) = 8 → vp_in (3 * (g 34 26)) 24 ∧ vp_in ((3 * (g 34 26)) + 1) 24 ∧ vp_in ((3 * (g 34 26)) + 2) 24 ∧ Q ((g 34 26) + 1) (sgU (sgU (sgU (sgU g 53 (3 * (g 34 26)).toNatClampNeg x1) 53 ((3 * (g 34 26)) + 1).toNatClampNeg x2) 53 ((3 * (g 34 26)) + 2).toNatClampNeg x3) 34 26 ((g 34 26) + 1))))) ∧ (¬ (twoE x2 x3) → Q (-2) g))) ∧ (¬ (isW x1) → Q (-2) g))) : Cm_chalk x1 x2 x3 g Q := by
  refine Cl.of 0 pl_X9 rfl ?_
  refine e_iload_n (dx D_m_chalk 0 rfl) rfl ?_
  refine e_callSi (Q1 := fun r g' => bP (isW x1) = r ∧ g = g') (rest := []) [.int x1] (dx D_m_chalk 1 rfl) ln_m_chalk_143 rfl rfl (Nat.le_of_ble_eq_true rfl) (Im_isWire  ⟨rfl, rfl⟩) (fun r g' hh => ?_)
  obtain ⟨rfl, rfl⟩ := hh
  refine e_if_eq (tgt := 15) (dx D_m_chalk 2 rfl) (by decide) (fun c => ?_) (fun c => ?_)
  · replace h := h.2 (bP_z c)
    refine q_bipush (v := (-2)) (dx D_m_chalk 7 rfl) (by decide) ?_
    exact e_iret (dx D_m_chalk 8 rfl) rfl rfl ⟨_, rfl, h⟩
  · replace h := h.1 (bP_n c)
    refine e_iload_n (dx D_m_chalk 3 rfl) rfl ?_
    refine e_iload_n (dx D_m_chalk 4 rfl) rfl ?_
    refine e_callSi (Q1 := fun r g' => bP (twoE x2 x3) = r ∧ g = g') (rest := []) [.int x2, .int x3] (dx D_m_chalk 5 rfl) ln_m_chalk_136 rfl rfl (Nat.le_of_ble_eq_true rfl) (Im_areEnds  ⟨rfl, rfl⟩) (fun r g' hh => ?_)
    obtain ⟨rfl, rfl⟩ := hh
    refine e_if_ne (tgt := 18) (dx D_m_chalk 6 rfl) (by decide) (fun c => ?_) (fun c => ?_)
    · replace h := h.1 (bP_n c)
      refine e_aload_n (dx D_m_chalk 9 rfl) rfl ?_
      refine e_getI (dx D_m_chalk 10 rfl) fl_RX9_281 rfl rfl ?_
      refine q_bipush (v := 8) (dx D_m_chalk 11 rfl) (by decide) ?_
      refine e_icmp_ne (tgt := 30) (dx D_m_chalk 12 rfl) (by decide) (fun c => ?_) (fun c => ?_)
      · replace h := h.2 c
        refine e_aload_n (dx D_m_chalk 15 rfl) rfl ?_
        refine e_getR (dx D_m_chalk 16 rfl) fl_RX9_64 rfl rfl ?_
        refine q_iconst (v := 3) (dx D_m_chalk 17 rfl) (by decide) ?_
        refine e_aload_n (dx D_m_chalk 18 rfl) rfl ?_
        refine e_getI (dx D_m_chalk 19 rfl) fl_RX9_281 rfl rfl ?_
        refine e_imul (dx D_m_chalk 20 rfl) ?_
        refine e_iload_n (dx D_m_chalk 21 rfl) rfl ?_
        obtain ⟨hb1, h⟩ := h
        refine e_iast (dx D_m_chalk 22 rfl) rfl hb1 ?_
        refine e_aload_n (dx D_m_chalk 23 rfl) rfl ?_
        refine e_getR (dx D_m_chalk 24 rfl) fl_RX9_64 rfl rfl ?_
        refine q_iconst (v := 3) (dx D_m_chalk 25 rfl) (by decide) ?_
        refine e_aload_n (dx D_m_chalk 26 rfl) rfl ?_
        refine e_getI (dx D_m_chalk 27 rfl) fl_RX9_281 rfl rfl ?_
        refine e_imul (dx D_m_chalk 28 rfl) ?_
        refine q_iconst (v := 1) (dx D_m_chalk 29 rfl) (by decide) ?_
        refine e_iadd (dx D_m_chalk 30 rfl) ?_
        refine e_iload_n (dx D_m_chalk 31 rfl) rfl ?_
        obtain ⟨hb2, h⟩ := h
        refine e_iast (dx D_m_chalk 32 rfl) rfl hb2 ?_
        refine e_aload_n (dx D_m_chalk 33 rfl) rfl ?_
        refine e_getR (dx D_m_chalk 34 rfl) fl_RX9_64 rfl rfl ?_
        refine q_iconst (v := 3) (dx D_m_chalk 35 rfl) (by decide) ?_
        refine e_aload_n (dx D_m_chalk 36 rfl) rfl ?_
        refine e_getI (dx D_m_chalk 37 rfl) fl_RX9_281 rfl rfl ?_
        refine e_imul (dx D_m_chalk 38 rfl) ?_
        refine q_iconst (v := 2) (dx D_m_chalk 39 rfl) (by decide) ?_
        refine e_iadd (dx D_m_chalk 40 rfl) ?_
        refine e_iload_n (dx D_m_chalk 41 rfl) rfl ?_
        obtain ⟨hb3, h⟩ := h
        refine e_iast (dx D_m_chalk 42 rfl) rfl hb3 ?_
        refine e_aload_n (dx D_m_chalk 43 rfl) rfl ?_
        refine e_dup (dx D_m_chalk 44 rfl) rfl ?_
        refine e_getI (dx D_m_chalk 45 rfl) fl_RX9_281 rfl rfl ?_
        refine q_iconst (v := 1) (dx D_m_chalk 46 rfl) (by decide) ?_
        refine e_iadd (dx D_m_chalk 47 rfl) ?_
        refine e_putI (dx D_m_chalk 48 rfl) fp_RX9_281 rfl rfl ?_
        refine e_aload_n (dx D_m_chalk 49 rfl) rfl ?_
        refine e_getI (dx D_m_chalk 50 rfl) fl_RX9_281 rfl rfl ?_
        exact e_iret (dx D_m_chalk 51 rfl) rfl rfl ⟨_, rfl, h⟩
      · replace h := h.1 c
        refine q_bipush (v := (-4)) (dx D_m_chalk 13 rfl) (by decide) ?_
        exact e_iret (dx D_m_chalk 14 rfl) rfl rfl ⟨_, rfl, h⟩
    · replace h := h.2 (bP_z c)
      refine q_bipush (v := (-2)) (dx D_m_chalk 7 rfl) (by decide) ?_
      exact e_iret (dx D_m_chalk 8 rfl) rfl rfl ⟨_, rfl, h⟩
abbrev Cm_liesNow (g : Sg) (Q : Int32 → Sg → Prop) : Prop := Ci Mm_liesNow [.ref 34] g Q
abbrev Hm_liesNow_4 (x1 : Int32) (x2 : Int32) (g : Sg) (Q : Int32 → Sg → Prop) : Prop := Hi Mm_liesNow 4 [some (.ref 34), some (.int x1), some (.int x2), none, none, none, none] [] g Q
set_option maxRecDepth 20000 in
theorem Vm_liesNow {g : Sg} {Q : Int32 → Sg → Prop} (h : Hm_liesNow_4 0 0 g Q) : Cm_liesNow g Q := by
  refine Cl.of 6 pl_X9 rfl ?_
  refine q_iconst (v := 0) (dx D_m_liesNow 0 rfl) (by decide) ?_
  refine q_istore_n (L' := [some (.ref 34), some (.int 0), none, none, none, none, none]) (dx D_m_liesNow 1 rfl) (by decide) rfl ?_
  refine q_iconst (v := 0) (dx D_m_liesNow 2 rfl) (by decide) ?_
  refine q_istore_n (L' := [some (.ref 34), some (.int 0), some (.int 0), none, none, none, none]) (dx D_m_liesNow 3 rfl) (by decide) rfl ?_
  exact h
set_option maxRecDepth 20000 in
theorem Vm_liesNow_4 {x1 : Int32} {x2 : Int32} {g : Sg} {Q : Int32 → Sg → Prop} (h : (((g 34 26) ≤ x2 → Q x1 g) ∧ (¬ (g 34 26) ≤ x2 → vp_in (3 * x2) 24 ∧ vp_in ((3 * x2) + 1) 24 ∧ vp_in ((3 * x2) + 2) 24 ∧ vp_in (2 * (g 53 (3 * x2).toNatClampNeg)) 32 ∧ (((g 42 (2 * (g 53 (3 * x2).toNatClampNeg)).toNatClampNeg) = (g 53 ((3 * x2) + 1).toNatClampNeg) → vp_in ((2 * (g 53 (3 * x2).toNatClampNeg)) + 1) 32 ∧ (((g 42 ((2 * (g 53 (3 * x2).toNatClampNeg)) + 1).toNatClampNeg) = (g 53 ((3 * x2) + 2).toNatClampNeg) → (((tbb (g 34 15) (g 53 (3 * x2).toNatClampNeg) = true) → Hm_liesNow_4 (x1 ||| 0) (x2 + 1) g Q) ∧ (¬ (tbb (g 34 15) (g 53 (3 * x2).toNatClampNeg) = true) → Hm_liesNow_4 (x1 ||| (sb x2)) (x2 + 1) g Q))) ∧ (¬ (g 42 ((2 * (g 53 (3 * x2).toNatClampNeg)) + 1).toNatClampNeg) = (g 53 ((3 * x2) + 2).toNatClampNeg) → vp_in (2 * (g 53 (3 * x2).toNatClampNeg)) 32 ∧ (((g 42 (2 * (g 53 (3 * x2).toNatClampNeg)).toNatClampNeg) = (g 53 ((3 * x2) + 2).toNatClampNeg) → vp_in ((2 * (g 53 (3 * x2).toNatClampNeg)) + 1) 32 ∧ (((g 42 ((2 * (g 53 (3 * x2).toNatClampNeg)) + 1).toNatClampNeg) = (g 53 ((3 * x2) + 1).toNatClampNeg) → (((tbb (g 34 15) (g 53 (3 * x2).toNatClampNeg) = true) → Hm_liesNow_4 (x1 ||| 0) (x2 + 1) g Q) ∧ (¬ (tbb (g 34 15) (g 53 (3 * x2).toNatClampNeg) = true) → Hm_liesNow_4 (x1 ||| (sb x2)) (x2 + 1) g Q))) ∧ (¬ (g 42 ((2 * (g 53 (3 * x2).toNatClampNeg)) + 1).toNatClampNeg) = (g 53 ((3 * x2) + 1).toNatClampNeg) → (((tbb (g 34 15) (g 53 (3 * x2).toNatClampNeg) = true) → Hm_liesNow_4 (x1 ||| (sb x2)) (x2 + 1) g Q) ∧ (¬ (tbb (g 34 15) (g 53 (3 * x2).toNatClampNeg) = true) → Hm_liesNow_4 (x1 ||| (sb x2)) (x2 + 1) g Q))))) ∧ (¬ (g 42 (2 * (g 53 (3 * x2).toNatClampNeg)).toNatClampNeg) = (g 53 ((3 * x2) + 2).toNatClampNeg) → (((tbb (g 34 15) (g 53 (3 * x2).toNatClampNeg) = true) → Hm_liesNow_4 (x1 ||| (sb x2)) (x2 + 1) g Q) ∧ (¬ (tbb (g 34 15) (g 53 (3 * x2).toNatClampNeg) = true) → Hm_liesNow_4 (x1 ||| (sb x2)) (x2 + 1) g Q))))))) ∧ (¬ (g 42 (2 * (g 53 (3 * x2).toNatClampNeg)).toNatClampNeg) = (g 53 ((3 * x2) + 1).toNatClampNeg) → vp_in (2 * (g 53 (3 * x2).toNatClampNeg)) 32 ∧ (((g 42 (2 * (g 53 (3 * x2).toNatClampNeg)).toNatClampNeg) = (g 53 ((3 * x2) + 2).toNatClampNeg) → vp_in ((2 * (g 53 (3 * x2).toNatClampNeg)) + 1) 32 ∧ (((g 42 ((2 * (g 53 (3 * x2).toNatClampNeg)) + 1).toNatClampNeg) = (g 53 ((3 * x2) + 1).toNatClampNeg) → (((tbb (g 34 15) (g 53 (3 * x2).toNatClampNeg) = true) → Hm_liesNow_4 (x1 ||| 0) (x2 + 1) g Q) ∧ (¬ (tbb (g 34 15) (g 53 (3 * x2).toNatClampNeg) = true) → Hm_liesNow_4 (x1 ||| (sb x2)) (x2 + 1) g Q))) ∧ (¬ (g 42 ((2 * (g 53 (3 * x2).toNatClampNeg)) + 1).toNatClampNeg) = (g 53 ((3 * x2) + 1).toNatClampNeg) → (((tbb (g 34 15) (g 53 (3 * x2).toNatClampNeg) = true) → Hm_liesNow_4 (x1 ||| (sb x2)) (x2 + 1) g Q) ∧ (¬ (tbb (g 34 15) (g 53 (3 * x2).toNatClampNeg) = true) → Hm_liesNow_4 (x1 ||| (sb x2)) (x2 + 1) g Q))))) ∧ (¬ (g 42 (2 * (g 53 (3 * x2).toNatClampNeg)).toNatClampNeg) = (g 53 ((3 * x2) + 2).toNatClampNeg) → (((tbb (g 34 15) (g 53 (3 * x2).toNatClampNeg) = true) → Hm_liesNow_4 (x1 ||| (sb x2)) (x2 + 1) g Q) ∧ (¬ (tbb (g 34 15) (g 53 (3 * x2).toNatClampNeg) = true) → Hm_liesNow_4 (x1 ||| (sb x2)) (x2 + 1) g Q))))))))) : Hm_liesNow_4 x1 x2 g Q := by
  refine e_iload_n (dx D_m_liesNow 4 rfl) rfl ?_
  refine e_aload_n (dx D_m_liesNow 5 rfl) rfl ?_
  refine e_getI (dx D_m_liesNow 6 rfl) fl_RX9_281 rfl rfl ?_
  refine e_icmp_ge (tgt := 140) (dx D_m_liesNow 7 rfl) (by decide) (fun c => ?_) (fun c => ?_)
  · replace h := h.1 c
    refine e_iload_n (dx D_m_liesNow 90 rfl) rfl ?_
    exact e_iret (dx D_m_liesNow 91 rfl) rfl rfl ⟨_, rfl, h⟩
  · replace h := h.2 c
    refine e_aload_n (dx D_m_liesNow 8 rfl) rfl ?_
    refine e_getR (dx D_m_liesNow 9 rfl) fl_RX9_64 rfl rfl ?_
    refine q_iconst (v := 3) (dx D_m_liesNow 10 rfl) (by decide) ?_
    refine e_iload_n (dx D_m_liesNow 11 rfl) rfl ?_
    refine e_imul (dx D_m_liesNow 12 rfl) ?_
    obtain ⟨hb1, h⟩ := h
    refine e_iald (dx D_m_liesNow 13 rfl) rfl hb1 ?_
    refine q_istore_n (L' := [some (.ref 34), some (.int x1), some (.int x2), some (.int (g 53 (3 * x2).toNatClampNeg)), none, none, none]) (dx D_m_liesNow 14 rfl) (by decide) rfl ?_
    refine e_aload_n (dx D_m_liesNow 15 rfl) rfl ?_
    refine e_getR (dx D_m_liesNow 16 rfl) fl_RX9_64 rfl rfl ?_
    refine q_iconst (v := 3) (dx D_m_liesNow 17 rfl) (by decide) ?_
    refine e_iload_n (dx D_m_liesNow 18 rfl) rfl ?_
    refine e_imul (dx D_m_liesNow 19 rfl) ?_
    refine q_iconst (v := 1) (dx D_m_liesNow 20 rfl) (by decide) ?_
    refine e_iadd (dx D_m_liesNow 21 rfl) ?_
    obtain ⟨hb2, h⟩ := h
    refine e_iald (dx D_m_liesNow 22 rfl) rfl hb2 ?_
    refine q_istore (L' := [some (.ref 34), some (.int x1), some (.int x2), some (.int (g 53 (3 * x2).toNatClampNeg)), some (.int (g 53 ((3 * x2) + 1).toNatClampNeg)), none, none]) (dx D_m_liesNow 23 rfl) (by decide) rfl ?_
    refine e_aload_n (dx D_m_liesNow 24 rfl) rfl ?_
    refine e_getR (dx D_m_liesNow 25 rfl) fl_RX9_64 rfl rfl ?_
    refine q_iconst (v := 3) (dx D_m_liesNow 26 rfl) (by decide) ?_
    refine e_iload_n (dx D_m_liesNow 27 rfl) rfl ?_
    refine e_imul (dx D_m_liesNow 28 rfl) ?_
    refine q_iconst (v := 2) (dx D_m_liesNow 29 rfl) (by decide) ?_
    refine e_iadd (dx D_m_liesNow 30 rfl) ?_
    obtain ⟨hb3, h⟩ := h
    refine e_iald (dx D_m_liesNow 31 rfl) rfl hb3 ?_
    refine q_istore (L' := [some (.ref 34), some (.int x1), some (.int x2), some (.int (g 53 (3 * x2).toNatClampNeg)), some (.int (g 53 ((3 * x2) + 1).toNatClampNeg)), some (.int (g 53 ((3 * x2) + 2).toNatClampNeg)), none]) (dx D_m_liesNow 32 rfl) (by decide) rfl ?_
    refine e_aload_n (dx D_m_liesNow 33 rfl) rfl ?_
    refine e_getR (dx D_m_liesNow 34 rfl) fl_RX9_31 rfl rfl ?_
    refine q_iconst (v := 2) (dx D_m_liesNow 35 rfl) (by decide) ?_
    refine e_iload_n (dx D_m_liesNow 36 rfl) rfl ?_
    refine e_imul (dx D_m_liesNow 37 rfl) ?_
    obtain ⟨hb4, h⟩ := h
    refine e_iald (dx D_m_liesNow 38 rfl) rfl hb4 ?_
    refine e_iload (dx D_m_liesNow 39 rfl) rfl ?_
    refine e_icmp_ne (tgt := 73) (dx D_m_liesNow 40 rfl) (by decide) (fun c => ?_) (fun c => ?_)
    · replace h := h.2 c
      refine e_aload_n (dx D_m_liesNow 51 rfl) rfl ?_
      refine e_getR (dx D_m_liesNow 52 rfl) fl_RX9_31 rfl rfl ?_
      refine q_iconst (v := 2) (dx D_m_liesNow 53 rfl) (by decide) ?_
      refine e_iload_n (dx D_m_liesNow 54 rfl) rfl ?_
      refine e_imul (dx D_m_liesNow 55 rfl) ?_
      obtain ⟨hb5, h⟩ := h
      refine e_iald (dx D_m_liesNow 56 rfl) rfl hb5 ?_
      refine e_iload (dx D_m_liesNow 57 rfl) rfl ?_
      refine e_icmp_ne (tgt := 105) (dx D_m_liesNow 58 rfl) (by decide) (fun c => ?_) (fun c => ?_)
      · replace h := h.2 c
        refine q_iconst (v := 0) (dx D_m_liesNow 71 rfl) (by decide) ?_
        refine q_istore (L' := [some (.ref 34), some (.int x1), some (.int x2), some (.int (g 53 (3 * x2).toNatClampNeg)), some (.int (g 53 ((3 * x2) + 1).toNatClampNeg)), some (.int (g 53 ((3 * x2) + 2).toNatClampNeg)), some (.int 0)]) (dx D_m_liesNow 72 rfl) (by decide) rfl ?_
        refine e_iload_n (dx D_m_liesNow 73 rfl) rfl ?_
        refine e_aload_n (dx D_m_liesNow 74 rfl) rfl ?_
        refine e_getI (dx D_m_liesNow 75 rfl) fl_RX9_165 rfl rfl ?_
        refine e_iload_n (dx D_m_liesNow 76 rfl) rfl ?_
        refine e_callSi (Q1 := fun r g' => bP (tbb (g 34 15) (g 53 (3 * x2).toNatClampNeg) = true) = r ∧ g = g') (rest := [.int x1]) [.int (g 34 15), .int (g 53 (3 * x2).toNatClampNeg)] (dx D_m_liesNow 77 rfl) ln_m_liesNow_149 rfl rfl (Nat.le_of_ble_eq_true rfl) (Im_isIn  ⟨rfl, rfl⟩) (fun r g' hh => ?_)
        obtain ⟨rfl, rfl⟩ := hh
        refine e_if_eq (tgt := 129) (dx D_m_liesNow 78 rfl) (by decide) (fun c => ?_) (fun c => ?_)
        · replace h := h.2 (bP_z c)
          refine q_iconst (v := 1) (dx D_m_liesNow 83 rfl) (by decide) ?_
          refine e_iload_n (dx D_m_liesNow 84 rfl) rfl ?_
          refine e_ishl (dx D_m_liesNow 85 rfl) ?_
          refine e_ior (dx D_m_liesNow 86 rfl) ?_
          refine q_istore_n (L' := [some (.ref 34), some (.int (x1 ||| (sb x2))), some (.int x2), some (.int (g 53 (3 * x2).toNatClampNeg)), some (.int (g 53 ((3 * x2) + 1).toNatClampNeg)), some (.int (g 53 ((3 * x2) + 2).toNatClampNeg)), some (.int 0)]) (dx D_m_liesNow 87 rfl) (by decide) rfl ?_
          refine q_iinc (d := 1) (L' := [some (.ref 34), some (.int (x1 ||| (sb x2))), some (.int (x2 + 1)), some (.int (g 53 (3 * x2).toNatClampNeg)), some (.int (g 53 ((3 * x2) + 1).toNatClampNeg)), some (.int (g 53 ((3 * x2) + 2).toNatClampNeg)), some (.int 0)]) (dx D_m_liesNow 88 rfl) rfl (by decide) (by decide) rfl ?_
          refine e_goto (tgt := 4) (dx D_m_liesNow 89 rfl) (by decide) ?_
          exact Wp.mask [true, true, true, false, false, false, false] h
        · replace h := h.1 (bP_n c)
          refine e_iload (dx D_m_liesNow 79 rfl) rfl ?_
          refine e_if_eq (tgt := 129) (dx D_m_liesNow 80 rfl) (by decide) (fun c => ?_) (fun c => ?_)
          · skip
            refine q_iconst (v := 1) (dx D_m_liesNow 83 rfl) (by decide) ?_
            refine e_iload_n (dx D_m_liesNow 84 rfl) rfl ?_
            refine e_ishl (dx D_m_liesNow 85 rfl) ?_
            refine e_ior (dx D_m_liesNow 86 rfl) ?_
            refine q_istore_n (L' := [some (.ref 34), some (.int (x1 ||| (sb x2))), some (.int x2), some (.int (g 53 (3 * x2).toNatClampNeg)), some (.int (g 53 ((3 * x2) + 1).toNatClampNeg)), some (.int (g 53 ((3 * x2) + 2).toNatClampNeg)), some (.int 0)]) (dx D_m_liesNow 87 rfl) (by decide) rfl ?_
            refine q_iinc (d := 1) (L' := [some (.ref 34), some (.int (x1 ||| (sb x2))), some (.int (x2 + 1)), some (.int (g 53 (3 * x2).toNatClampNeg)), some (.int (g 53 ((3 * x2) + 1).toNatClampNeg)), some (.int (g 53 ((3 * x2) + 2).toNatClampNeg)), some (.int 0)]) (dx D_m_liesNow 88 rfl) rfl (by decide) (by decide) rfl ?_
            refine e_goto (tgt := 4) (dx D_m_liesNow 89 rfl) (by decide) ?_
            exact Wp.mask [true, true, true, false, false, false, false] h
          · exact absurd c (by decide)
      · replace h := h.1 c
        refine e_aload_n (dx D_m_liesNow 59 rfl) rfl ?_
        refine e_getR (dx D_m_liesNow 60 rfl) fl_RX9_31 rfl rfl ?_
        refine q_iconst (v := 2) (dx D_m_liesNow 61 rfl) (by decide) ?_
        refine e_iload_n (dx D_m_liesNow 62 rfl) rfl ?_
        refine e_imul (dx D_m_liesNow 63 rfl) ?_
        refine q_iconst (v := 1) (dx D_m_liesNow 64 rfl) (by decide) ?_
        refine e_iadd (dx D_m_liesNow 65 rfl) ?_
        obtain ⟨hb6, h⟩ := h
        refine e_iald (dx D_m_liesNow 66 rfl) rfl hb6 ?_
        refine e_iload (dx D_m_liesNow 67 rfl) rfl ?_
        refine e_icmp_ne (tgt := 105) (dx D_m_liesNow 68 rfl) (by decide) (fun c => ?_) (fun c => ?_)
        · replace h := h.2 c
          refine q_iconst (v := 0) (dx D_m_liesNow 71 rfl) (by decide) ?_
          refine q_istore (L' := [some (.ref 34), some (.int x1), some (.int x2), some (.int (g 53 (3 * x2).toNatClampNeg)), some (.int (g 53 ((3 * x2) + 1).toNatClampNeg)), some (.int (g 53 ((3 * x2) + 2).toNatClampNeg)), some (.int 0)]) (dx D_m_liesNow 72 rfl) (by decide) rfl ?_
          refine e_iload_n (dx D_m_liesNow 73 rfl) rfl ?_
          refine e_aload_n (dx D_m_liesNow 74 rfl) rfl ?_
          refine e_getI (dx D_m_liesNow 75 rfl) fl_RX9_165 rfl rfl ?_
          refine e_iload_n (dx D_m_liesNow 76 rfl) rfl ?_
          refine e_callSi (Q1 := fun r g' => bP (tbb (g 34 15) (g 53 (3 * x2).toNatClampNeg) = true) = r ∧ g = g') (rest := [.int x1]) [.int (g 34 15), .int (g 53 (3 * x2).toNatClampNeg)] (dx D_m_liesNow 77 rfl) ln_m_liesNow_149 rfl rfl (Nat.le_of_ble_eq_true rfl) (Im_isIn  ⟨rfl, rfl⟩) (fun r g' hh => ?_)
          obtain ⟨rfl, rfl⟩ := hh
          refine e_if_eq (tgt := 129) (dx D_m_liesNow 78 rfl) (by decide) (fun c => ?_) (fun c => ?_)
          · replace h := h.2 (bP_z c)
            refine q_iconst (v := 1) (dx D_m_liesNow 83 rfl) (by decide) ?_
            refine e_iload_n (dx D_m_liesNow 84 rfl) rfl ?_
            refine e_ishl (dx D_m_liesNow 85 rfl) ?_
            refine e_ior (dx D_m_liesNow 86 rfl) ?_
            refine q_istore_n (L' := [some (.ref 34), some (.int (x1 ||| (sb x2))), some (.int x2), some (.int (g 53 (3 * x2).toNatClampNeg)), some (.int (g 53 ((3 * x2) + 1).toNatClampNeg)), some (.int (g 53 ((3 * x2) + 2).toNatClampNeg)), some (.int 0)]) (dx D_m_liesNow 87 rfl) (by decide) rfl ?_
            refine q_iinc (d := 1) (L' := [some (.ref 34), some (.int (x1 ||| (sb x2))), some (.int (x2 + 1)), some (.int (g 53 (3 * x2).toNatClampNeg)), some (.int (g 53 ((3 * x2) + 1).toNatClampNeg)), some (.int (g 53 ((3 * x2) + 2).toNatClampNeg)), some (.int 0)]) (dx D_m_liesNow 88 rfl) rfl (by decide) (by decide) rfl ?_
            refine e_goto (tgt := 4) (dx D_m_liesNow 89 rfl) (by decide) ?_
            exact Wp.mask [true, true, true, false, false, false, false] h
          · replace h := h.1 (bP_n c)
            refine e_iload (dx D_m_liesNow 79 rfl) rfl ?_
            refine e_if_eq (tgt := 129) (dx D_m_liesNow 80 rfl) (by decide) (fun c => ?_) (fun c => ?_)
            · skip
              refine q_iconst (v := 1) (dx D_m_liesNow 83 rfl) (by decide) ?_
              refine e_iload_n (dx D_m_liesNow 84 rfl) rfl ?_
              refine e_ishl (dx D_m_liesNow 85 rfl) ?_
              refine e_ior (dx D_m_liesNow 86 rfl) ?_
              refine q_istore_n (L' := [some (.ref 34), some (.int (x1 ||| (sb x2))), some (.int x2), some (.int (g 53 (3 * x2).toNatClampNeg)), some (.int (g 53 ((3 * x2) + 1).toNatClampNeg)), some (.int (g 53 ((3 * x2) + 2).toNatClampNeg)), some (.int 0)]) (dx D_m_liesNow 87 rfl) (by decide) rfl ?_
              refine q_iinc (d := 1) (L' := [some (.ref 34), some (.int (x1 ||| (sb x2))), some (.int (x2 + 1)), some (.int (g 53 (3 * x2).toNatClampNeg)), some (.int (g 53 ((3 * x2) + 1).toNatClampNeg)), some (.int (g 53 ((3 * x2) + 2).toNatClampNeg)), some (.int 0)]) (dx D_m_liesNow 88 rfl) rfl (by decide) (by decide) rfl ?_
              refine e_goto (tgt := 4) (dx D_m_liesNow 89 rfl) (by decide) ?_
              exact Wp.mask [true, true, true, false, false, false, false] h
            · exact absurd c (by decide)
        · replace h := h.1 c
          refine q_iconst (v := 1) (dx D_m_liesNow 69 rfl) (by decide) ?_
          refine e_goto (tgt := 106) (dx D_m_liesNow 70 rfl) (by decide) ?_
          refine q_istore (L' := [some (.ref 34), some (.int x1), some (.int x2), some (.int (g 53 (3 * x2).toNatClampNeg)), some (.int (g 53 ((3 * x2) + 1).toNatClampNeg)), some (.int (g 53 ((3 * x2) + 2).toNatClampNeg)), some (.int 1)]) (dx D_m_liesNow 72 rfl) (by decide) rfl ?_
          refine e_iload_n (dx D_m_liesNow 73 rfl) rfl ?_
          refine e_aload_n (dx D_m_liesNow 74 rfl) rfl ?_
          refine e_getI (dx D_m_liesNow 75 rfl) fl_RX9_165 rfl rfl ?_
          refine e_iload_n (dx D_m_liesNow 76 rfl) rfl ?_
          refine e_callSi (Q1 := fun r g' => bP (tbb (g 34 15) (g 53 (3 * x2).toNatClampNeg) = true) = r ∧ g = g') (rest := [.int x1]) [.int (g 34 15), .int (g 53 (3 * x2).toNatClampNeg)] (dx D_m_liesNow 77 rfl) ln_m_liesNow_149 rfl rfl (Nat.le_of_ble_eq_true rfl) (Im_isIn  ⟨rfl, rfl⟩) (fun r g' hh => ?_)
          obtain ⟨rfl, rfl⟩ := hh
          refine e_if_eq (tgt := 129) (dx D_m_liesNow 78 rfl) (by decide) (fun c => ?_) (fun c => ?_)
          · replace h := h.2 (bP_z c)
            refine q_iconst (v := 1) (dx D_m_liesNow 83 rfl) (by decide) ?_
            refine e_iload_n (dx D_m_liesNow 84 rfl) rfl ?_
            refine e_ishl (dx D_m_liesNow 85 rfl) ?_
            refine e_ior (dx D_m_liesNow 86 rfl) ?_
            refine q_istore_n (L' := [some (.ref 34), some (.int (x1 ||| (sb x2))), some (.int x2), some (.int (g 53 (3 * x2).toNatClampNeg)), some (.int (g 53 ((3 * x2) + 1).toNatClampNeg)), some (.int (g 53 ((3 * x2) + 2).toNatClampNeg)), some (.int 1)]) (dx D_m_liesNow 87 rfl) (by decide) rfl ?_
            refine q_iinc (d := 1) (L' := [some (.ref 34), some (.int (x1 ||| (sb x2))), some (.int (x2 + 1)), some (.int (g 53 (3 * x2).toNatClampNeg)), some (.int (g 53 ((3 * x2) + 1).toNatClampNeg)), some (.int (g 53 ((3 * x2) + 2).toNatClampNeg)), some (.int 1)]) (dx D_m_liesNow 88 rfl) rfl (by decide) (by decide) rfl ?_
            refine e_goto (tgt := 4) (dx D_m_liesNow 89 rfl) (by decide) ?_
            exact Wp.mask [true, true, true, false, false, false, false] h
          · replace h := h.1 (bP_n c)
            refine e_iload (dx D_m_liesNow 79 rfl) rfl ?_
            refine e_if_eq (tgt := 129) (dx D_m_liesNow 80 rfl) (by decide) (fun c => ?_) (fun c => ?_)
            · exact absurd c (by decide)
            · skip
              refine q_iconst (v := 0) (dx D_m_liesNow 81 rfl) (by decide) ?_
              refine e_goto (tgt := 132) (dx D_m_liesNow 82 rfl) (by decide) ?_
              refine e_ior (dx D_m_liesNow 86 rfl) ?_
              refine q_istore_n (L' := [some (.ref 34), some (.int (x1 ||| 0)), some (.int x2), some (.int (g 53 (3 * x2).toNatClampNeg)), some (.int (g 53 ((3 * x2) + 1).toNatClampNeg)), some (.int (g 53 ((3 * x2) + 2).toNatClampNeg)), some (.int 1)]) (dx D_m_liesNow 87 rfl) (by decide) rfl ?_
              refine q_iinc (d := 1) (L' := [some (.ref 34), some (.int (x1 ||| 0)), some (.int (x2 + 1)), some (.int (g 53 (3 * x2).toNatClampNeg)), some (.int (g 53 ((3 * x2) + 1).toNatClampNeg)), some (.int (g 53 ((3 * x2) + 2).toNatClampNeg)), some (.int 1)]) (dx D_m_liesNow 88 rfl) rfl (by decide) (by decide) rfl ?_
              refine e_goto (tgt := 4) (dx D_m_liesNow 89 rfl) (by decide) ?_
              exact Wp.mask [true, true, true, false, false, false, false] h
    · replace h := h.1 c
      refine e_aload_n (dx D_m_liesNow 41 rfl) rfl ?_
      refine e_getR (dx D_m_liesNow 42 rfl) fl_RX9_31 rfl rfl ?_
      refine q_iconst (v := 2) (dx D_m_liesNow 43 rfl) (by decide) ?_
      refine e_iload_n (dx D_m_liesNow 44 rfl) rfl ?_
      refine e_imul (dx D_m_liesNow 45 rfl) ?_
      refine q_iconst (v := 1) (dx D_m_liesNow 46 rfl) (by decide) ?_
      refine e_iadd (dx D_m_liesNow 47 rfl) ?_
      obtain ⟨hb7, h⟩ := h
      refine e_iald (dx D_m_liesNow 48 rfl) rfl hb7 ?_
      refine e_iload (dx D_m_liesNow 49 rfl) rfl ?_
      refine e_icmp_eq (tgt := 101) (dx D_m_liesNow 50 rfl) (by decide) (fun c => ?_) (fun c => ?_)
      · replace h := h.1 c
        refine q_iconst (v := 1) (dx D_m_liesNow 69 rfl) (by decide) ?_
        refine e_goto (tgt := 106) (dx D_m_liesNow 70 rfl) (by decide) ?_
        refine q_istore (L' := [some (.ref 34), some (.int x1), some (.int x2), some (.int (g 53 (3 * x2).toNatClampNeg)), some (.int (g 53 ((3 * x2) + 1).toNatClampNeg)), some (.int (g 53 ((3 * x2) + 2).toNatClampNeg)), some (.int 1)]) (dx D_m_liesNow 72 rfl) (by decide) rfl ?_
        refine e_iload_n (dx D_m_liesNow 73 rfl) rfl ?_
        refine e_aload_n (dx D_m_liesNow 74 rfl) rfl ?_
        refine e_getI (dx D_m_liesNow 75 rfl) fl_RX9_165 rfl rfl ?_
        refine e_iload_n (dx D_m_liesNow 76 rfl) rfl ?_
        refine e_callSi (Q1 := fun r g' => bP (tbb (g 34 15) (g 53 (3 * x2).toNatClampNeg) = true) = r ∧ g = g') (rest := [.int x1]) [.int (g 34 15), .int (g 53 (3 * x2).toNatClampNeg)] (dx D_m_liesNow 77 rfl) ln_m_liesNow_149 rfl rfl (Nat.le_of_ble_eq_true rfl) (Im_isIn  ⟨rfl, rfl⟩) (fun r g' hh => ?_)
        obtain ⟨rfl, rfl⟩ := hh
        refine e_if_eq (tgt := 129) (dx D_m_liesNow 78 rfl) (by decide) (fun c => ?_) (fun c => ?_)
        · replace h := h.2 (bP_z c)
          refine q_iconst (v := 1) (dx D_m_liesNow 83 rfl) (by decide) ?_
          refine e_iload_n (dx D_m_liesNow 84 rfl) rfl ?_
          refine e_ishl (dx D_m_liesNow 85 rfl) ?_
          refine e_ior (dx D_m_liesNow 86 rfl) ?_
          refine q_istore_n (L' := [some (.ref 34), some (.int (x1 ||| (sb x2))), some (.int x2), some (.int (g 53 (3 * x2).toNatClampNeg)), some (.int (g 53 ((3 * x2) + 1).toNatClampNeg)), some (.int (g 53 ((3 * x2) + 2).toNatClampNeg)), some (.int 1)]) (dx D_m_liesNow 87 rfl) (by decide) rfl ?_
          refine q_iinc (d := 1) (L' := [some (.ref 34), some (.int (x1 ||| (sb x2))), some (.int (x2 + 1)), some (.int (g 53 (3 * x2).toNatClampNeg)), some (.int (g 53 ((3 * x2) + 1).toNatClampNeg)), some (.int (g 53 ((3 * x2) + 2).toNatClampNeg)), some (.int 1)]) (dx D_m_liesNow 88 rfl) rfl (by decide) (by decide) rfl ?_
          refine e_goto (tgt := 4) (dx D_m_liesNow 89 rfl) (by decide) ?_
          exact Wp.mask [true, true, true, false, false, false, false] h
        · replace h := h.1 (bP_n c)
          refine e_iload (dx D_m_liesNow 79 rfl) rfl ?_
          refine e_if_eq (tgt := 129) (dx D_m_liesNow 80 rfl) (by decide) (fun c => ?_) (fun c => ?_)
          · exact absurd c (by decide)
          · skip
            refine q_iconst (v := 0) (dx D_m_liesNow 81 rfl) (by decide) ?_
            refine e_goto (tgt := 132) (dx D_m_liesNow 82 rfl) (by decide) ?_
            refine e_ior (dx D_m_liesNow 86 rfl) ?_
            refine q_istore_n (L' := [some (.ref 34), some (.int (x1 ||| 0)), some (.int x2), some (.int (g 53 (3 * x2).toNatClampNeg)), some (.int (g 53 ((3 * x2) + 1).toNatClampNeg)), some (.int (g 53 ((3 * x2) + 2).toNatClampNeg)), some (.int 1)]) (dx D_m_liesNow 87 rfl) (by decide) rfl ?_
            refine q_iinc (d := 1) (L' := [some (.ref 34), some (.int (x1 ||| 0)), some (.int (x2 + 1)), some (.int (g 53 (3 * x2).toNatClampNeg)), some (.int (g 53 ((3 * x2) + 1).toNatClampNeg)), some (.int (g 53 ((3 * x2) + 2).toNatClampNeg)), some (.int 1)]) (dx D_m_liesNow 88 rfl) rfl (by decide) (by decide) rfl ?_
            refine e_goto (tgt := 4) (dx D_m_liesNow 89 rfl) (by decide) ?_
            exact Wp.mask [true, true, true, false, false, false, false] h
      · replace h := h.2 c
        refine e_aload_n (dx D_m_liesNow 51 rfl) rfl ?_
        refine e_getR (dx D_m_liesNow 52 rfl) fl_RX9_31 rfl rfl ?_
        refine q_iconst (v := 2) (dx D_m_liesNow 53 rfl) (by decide) ?_
        refine e_iload_n (dx D_m_liesNow 54 rfl) rfl ?_
        refine e_imul (dx D_m_liesNow 55 rfl) ?_
        obtain ⟨hb8, h⟩ := h
        refine e_iald (dx D_m_liesNow 56 rfl) rfl hb8 ?_
        refine e_iload (dx D_m_liesNow 57 rfl) rfl ?_
        refine e_icmp_ne (tgt := 105) (dx D_m_liesNow 58 rfl) (by decide) (fun c => ?_) (fun c => ?_)
        · replace h := h.2 c
          refine q_iconst (v := 0) (dx D_m_liesNow 71 rfl) (by decide) ?_
          refine q_istore (L' := [some (.ref 34), some (.int x1), some (.int x2), some (.int (g 53 (3 * x2).toNatClampNeg)), some (.int (g 53 ((3 * x2) + 1).toNatClampNeg)), some (.int (g 53 ((3 * x2) + 2).toNatClampNeg)), some (.int 0)]) (dx D_m_liesNow 72 rfl) (by decide) rfl ?_
          refine e_iload_n (dx D_m_liesNow 73 rfl) rfl ?_
          refine e_aload_n (dx D_m_liesNow 74 rfl) rfl ?_
          refine e_getI (dx D_m_liesNow 75 rfl) fl_RX9_165 rfl rfl ?_
          refine e_iload_n (dx D_m_liesNow 76 rfl) rfl ?_
          refine e_callSi (Q1 := fun r g' => bP (tbb (g 34 15) (g 53 (3 * x2).toNatClampNeg) = true) = r ∧ g = g') (rest := [.int x1]) [.int (g 34 15), .int (g 53 (3 * x2).toNatClampNeg)] (dx D_m_liesNow 77 rfl) ln_m_liesNow_149 rfl rfl (Nat.le_of_ble_eq_true rfl) (Im_isIn  ⟨rfl, rfl⟩) (fun r g' hh => ?_)
          obtain ⟨rfl, rfl⟩ := hh
          refine e_if_eq (tgt := 129) (dx D_m_liesNow 78 rfl) (by decide) (fun c => ?_) (fun c => ?_)
          · replace h := h.2 (bP_z c)
            refine q_iconst (v := 1) (dx D_m_liesNow 83 rfl) (by decide) ?_
            refine e_iload_n (dx D_m_liesNow 84 rfl) rfl ?_
            refine e_ishl (dx D_m_liesNow 85 rfl) ?_
            refine e_ior (dx D_m_liesNow 86 rfl) ?_
            refine q_istore_n (L' := [some (.ref 34), some (.int (x1 ||| (sb x2))), some (.int x2), some (.int (g 53 (3 * x2).toNatClampNeg)), some (.int (g 53 ((3 * x2) + 1).toNatClampNeg)), some (.int (g 53 ((3 * x2) + 2).toNatClampNeg)), some (.int 0)]) (dx D_m_liesNow 87 rfl) (by decide) rfl ?_
            refine q_iinc (d := 1) (L' := [some (.ref 34), some (.int (x1 ||| (sb x2))), some (.int (x2 + 1)), some (.int (g 53 (3 * x2).toNatClampNeg)), some (.int (g 53 ((3 * x2) + 1).toNatClampNeg)), some (.int (g 53 ((3 * x2) + 2).toNatClampNeg)), some (.int 0)]) (dx D_m_liesNow 88 rfl) rfl (by decide) (by decide) rfl ?_
            refine e_goto (tgt := 4) (dx D_m_liesNow 89 rfl) (by decide) ?_
            exact Wp.mask [true, true, true, false, false, false, false] h
          · replace h := h.1 (bP_n c)
            refine e_iload (dx D_m_liesNow 79 rfl) rfl ?_
            refine e_if_eq (tgt := 129) (dx D_m_liesNow 80 rfl) (by decide) (fun c => ?_) (fun c => ?_)
            · skip
              refine q_iconst (v := 1) (dx D_m_liesNow 83 rfl) (by decide) ?_
              refine e_iload_n (dx D_m_liesNow 84 rfl) rfl ?_
              refine e_ishl (dx D_m_liesNow 85 rfl) ?_
              refine e_ior (dx D_m_liesNow 86 rfl) ?_
              refine q_istore_n (L' := [some (.ref 34), some (.int (x1 ||| (sb x2))), some (.int x2), some (.int (g 53 (3 * x2).toNatClampNeg)), some (.int (g 53 ((3 * x2) + 1).toNatClampNeg)), some (.int (g 53 ((3 * x2) + 2).toNatClampNeg)), some (.int 0)]) (dx D_m_liesNow 87 rfl) (by decide) rfl ?_
              refine q_iinc (d := 1) (L' := [some (.ref 34), some (.int (x1 ||| (sb x2))), some (.int (x2 + 1)), some (.int (g 53 (3 * x2).toNatClampNeg)), some (.int (g 53 ((3 * x2) + 1).toNatClampNeg)), some (.int (g 53 ((3 * x2) + 2).toNatClampNeg)), some (.int 0)]) (dx D_m_liesNow 88 rfl) rfl (by decide) (by decide) rfl ?_
              refine e_goto (tgt := 4) (dx D_m_liesNow 89 rfl) (by decide) ?_
              exact Wp.mask [true, true, true, false, false, false, false] h
            · exact absurd c (by decide)
        · replace h := h.1 c
          refine e_aload_n (dx D_m_liesNow 59 rfl) rfl ?_
          refine e_getR (dx D_m_liesNow 60 rfl) fl_RX9_31 rfl rfl ?_
          refine q_iconst (v := 2) (dx D_m_liesNow 61 rfl) (by decide) ?_
          refine e_iload_n (dx D_m_liesNow 62 rfl) rfl ?_
          refine e_imul (dx D_m_liesNow 63 rfl) ?_
          refine q_iconst (v := 1) (dx D_m_liesNow 64 rfl) (by decide) ?_
          refine e_iadd (dx D_m_liesNow 65 rfl) ?_
          obtain ⟨hb9, h⟩ := h
          refine e_iald (dx D_m_liesNow 66 rfl) rfl hb9 ?_
          refine e_iload (dx D_m_liesNow 67 rfl) rfl ?_
          refine e_icmp_ne (tgt := 105) (dx D_m_liesNow 68 rfl) (by decide) (fun c => ?_) (fun c => ?_)
          · replace h := h.2 c
            refine q_iconst (v := 0) (dx D_m_liesNow 71 rfl) (by decide) ?_
            refine q_istore (L' := [some (.ref 34), some (.int x1), some (.int x2), some (.int (g 53 (3 * x2).toNatClampNeg)), some (.int (g 53 ((3 * x2) + 1).toNatClampNeg)), some (.int (g 53 ((3 * x2) + 2).toNatClampNeg)), some (.int 0)]) (dx D_m_liesNow 72 rfl) (by decide) rfl ?_
            refine e_iload_n (dx D_m_liesNow 73 rfl) rfl ?_
            refine e_aload_n (dx D_m_liesNow 74 rfl) rfl ?_
            refine e_getI (dx D_m_liesNow 75 rfl) fl_RX9_165 rfl rfl ?_
            refine e_iload_n (dx D_m_liesNow 76 rfl) rfl ?_
            refine e_callSi (Q1 := fun r g' => bP (tbb (g 34 15) (g 53 (3 * x2).toNatClampNeg) = true) = r ∧ g = g') (rest := [.int x1]) [.int (g 34 15), .int (g 53 (3 * x2).toNatClampNeg)] (dx D_m_liesNow 77 rfl) ln_m_liesNow_149 rfl rfl (Nat.le_of_ble_eq_true rfl) (Im_isIn  ⟨rfl, rfl⟩) (fun r g' hh => ?_)
            obtain ⟨rfl, rfl⟩ := hh
            refine e_if_eq (tgt := 129) (dx D_m_liesNow 78 rfl) (by decide) (fun c => ?_) (fun c => ?_)
            · replace h := h.2 (bP_z c)
              refine q_iconst (v := 1) (dx D_m_liesNow 83 rfl) (by decide) ?_
              refine e_iload_n (dx D_m_liesNow 84 rfl) rfl ?_
              refine e_ishl (dx D_m_liesNow 85 rfl) ?_
              refine e_ior (dx D_m_liesNow 86 rfl) ?_
              refine q_istore_n (L' := [some (.ref 34), some (.int (x1 ||| (sb x2))), some (.int x2), some (.int (g 53 (3 * x2).toNatClampNeg)), some (.int (g 53 ((3 * x2) + 1).toNatClampNeg)), some (.int (g 53 ((3 * x2) + 2).toNatClampNeg)), some (.int 0)]) (dx D_m_liesNow 87 rfl) (by decide) rfl ?_
              refine q_iinc (d := 1) (L' := [some (.ref 34), some (.int (x1 ||| (sb x2))), some (.int (x2 + 1)), some (.int (g 53 (3 * x2).toNatClampNeg)), some (.int (g 53 ((3 * x2) + 1).toNatClampNeg)), some (.int (g 53 ((3 * x2) + 2).toNatClampNeg)), some (.int 0)]) (dx D_m_liesNow 88 rfl) rfl (by decide) (by decide) rfl ?_
              refine e_goto (tgt := 4) (dx D_m_liesNow 89 rfl) (by decide) ?_
              exact Wp.mask [true, true, true, false, false, false, false] h
            · replace h := h.1 (bP_n c)
              refine e_iload (dx D_m_liesNow 79 rfl) rfl ?_
              refine e_if_eq (tgt := 129) (dx D_m_liesNow 80 rfl) (by decide) (fun c => ?_) (fun c => ?_)
              · skip
                refine q_iconst (v := 1) (dx D_m_liesNow 83 rfl) (by decide) ?_
                refine e_iload_n (dx D_m_liesNow 84 rfl) rfl ?_
                refine e_ishl (dx D_m_liesNow 85 rfl) ?_
                refine e_ior (dx D_m_liesNow 86 rfl) ?_
                refine q_istore_n (L' := [some (.ref 34), some (.int (x1 ||| (sb x2))), some (.int x2), some (.int (g 53 (3 * x2).toNatClampNeg)), some (.int (g 53 ((3 * x2) + 1).toNatClampNeg)), some (.int (g 53 ((3 * x2) + 2).toNatClampNeg)), some (.int 0)]) (dx D_m_liesNow 87 rfl) (by decide) rfl ?_
                refine q_iinc (d := 1) (L' := [some (.ref 34), some (.int (x1 ||| (sb x2))), some (.int (x2 + 1)), some (.int (g 53 (3 * x2).toNatClampNeg)), some (.int (g 53 ((3 * x2) + 1).toNatClampNeg)), some (.int (g 53 ((3 * x2) + 2).toNatClampNeg)), some (.int 0)]) (dx D_m_liesNow 88 rfl) rfl (by decide) (by decide) rfl ?_
                refine e_goto (tgt := 4) (dx D_m_liesNow 89 rfl) (by decide) ?_
                exact Wp.mask [true, true, true, false, false, false, false] h
              · exact absurd c (by decide)
          · replace h := h.1 c
            refine q_iconst (v := 1) (dx D_m_liesNow 69 rfl) (by decide) ?_
            refine e_goto (tgt := 106) (dx D_m_liesNow 70 rfl) (by decide) ?_
            refine q_istore (L' := [some (.ref 34), some (.int x1), some (.int x2), some (.int (g 53 (3 * x2).toNatClampNeg)), some (.int (g 53 ((3 * x2) + 1).toNatClampNeg)), some (.int (g 53 ((3 * x2) + 2).toNatClampNeg)), some (.int 1)]) (dx D_m_liesNow 72 rfl) (by decide) rfl ?_
            refine e_iload_n (dx D_m_liesNow 73 rfl) rfl ?_
            refine e_aload_n (dx D_m_liesNow 74 rfl) rfl ?_
            refine e_getI (dx D_m_liesNow 75 rfl) fl_RX9_165 rfl rfl ?_
            refine e_iload_n (dx D_m_liesNow 76 rfl) rfl ?_
            refine e_callSi (Q1 := fun r g' => bP (tbb (g 34 15) (g 53 (3 * x2).toNatClampNeg) = true) = r ∧ g = g') (rest := [.int x1]) [.int (g 34 15), .int (g 53 (3 * x2).toNatClampNeg)] (dx D_m_liesNow 77 rfl) ln_m_liesNow_149 rfl rfl (Nat.le_of_ble_eq_true rfl) (Im_isIn  ⟨rfl, rfl⟩) (fun r g' hh => ?_)
            obtain ⟨rfl, rfl⟩ := hh
            refine e_if_eq (tgt := 129) (dx D_m_liesNow 78 rfl) (by decide) (fun c => ?_) (fun c => ?_)
            · replace h := h.2 (bP_z c)
              refine q_iconst (v := 1) (dx D_m_liesNow 83 rfl) (by decide) ?_
              refine e_iload_n (dx D_m_liesNow 84 rfl) rfl ?_
              refine e_ishl (dx D_m_liesNow 85 rfl) ?_
              refine e_ior (dx D_m_liesNow 86 rfl) ?_
              refine q_istore_n (L' := [some (.ref 34), some (.int (x1 ||| (sb x2))), some (.int x2), some (.int (g 53 (3 * x2).toNatClampNeg)), some (.int (g 53 ((3 * x2) + 1).toNatClampNeg)), some (.int (g 53 ((3 * x2) + 2).toNatClampNeg)), some (.int 1)]) (dx D_m_liesNow 87 rfl) (by decide) rfl ?_
              refine q_iinc (d := 1) (L' := [some (.ref 34), some (.int (x1 ||| (sb x2))), some (.int (x2 + 1)), some (.int (g 53 (3 * x2).toNatClampNeg)), some (.int (g 53 ((3 * x2) + 1).toNatClampNeg)), some (.int (g 53 ((3 * x2) + 2).toNatClampNeg)), some (.int 1)]) (dx D_m_liesNow 88 rfl) rfl (by decide) (by decide) rfl ?_
              refine e_goto (tgt := 4) (dx D_m_liesNow 89 rfl) (by decide) ?_
              exact Wp.mask [true, true, true, false, false, false, false] h
            · replace h := h.1 (bP_n c)
              refine e_iload (dx D_m_liesNow 79 rfl) rfl ?_
              refine e_if_eq (tgt := 129) (dx D_m_liesNow 80 rfl) (by decide) (fun c => ?_) (fun c => ?_)
              · exact absurd c (by decide)
              · skip
                refine q_iconst (v := 0) (dx D_m_liesNow 81 rfl) (by decide) ?_
                refine e_goto (tgt := 132) (dx D_m_liesNow 82 rfl) (by decide) ?_
                refine e_ior (dx D_m_liesNow 86 rfl) ?_
                refine q_istore_n (L' := [some (.ref 34), some (.int (x1 ||| 0)), some (.int x2), some (.int (g 53 (3 * x2).toNatClampNeg)), some (.int (g 53 ((3 * x2) + 1).toNatClampNeg)), some (.int (g 53 ((3 * x2) + 2).toNatClampNeg)), some (.int 1)]) (dx D_m_liesNow 87 rfl) (by decide) rfl ?_
                refine q_iinc (d := 1) (L' := [some (.ref 34), some (.int (x1 ||| 0)), some (.int (x2 + 1)), some (.int (g 53 (3 * x2).toNatClampNeg)), some (.int (g 53 ((3 * x2) + 1).toNatClampNeg)), some (.int (g 53 ((3 * x2) + 2).toNatClampNeg)), some (.int 1)]) (dx D_m_liesNow 88 rfl) rfl (by decide) (by decide) rfl ?_
                refine e_goto (tgt := 4) (dx D_m_liesNow 89 rfl) (by decide) ?_
                exact Wp.mask [true, true, true, false, false, false, false] h
abbrev Cm_lies (g : Sg) (Q : Int32 → Sg → Prop) : Prop := Ci Mm_lies [.ref 34] g Q
set_option maxRecDepth 20000 in
theorem Vm_lies {g : Sg} {Q : Int32 → Sg → Prop} (h : Cm_goesAll g (fun g1 => Cm_liesNow g1 (fun r3 g2 => Q r3 g2))) : Cm_lies g Q := by
  refine Cl.of 0 pl_X9 rfl ?_
  refine e_aload_n (dx D_m_lies 0 rfl) rfl ?_
  refine e_callVv (rest := []) [] (dx D_m_lies 1 rfl) ln_m_lies_186 rfl rfl rfl (Nat.le_of_ble_eq_true rfl) h (fun g1 h => ?_)
  refine e_aload_n (dx D_m_lies 2 rfl) rfl ?_
  refine e_callVi (rest := []) [] (dx D_m_lies 3 rfl) ln_m_lies_284 rfl rfl rfl (Nat.le_of_ble_eq_true rfl) h (fun r3 g2 h => ?_)
  exact e_iret (dx D_m_lies 4 rfl) rfl rfl ⟨_, rfl, h⟩
abbrev Cm_scene (x1 : Int32) (g : Sg) (Q : Int32 → Sg → Prop) : Prop := Ci Mm_scene [.ref 34, .int x1] g Q
set_option maxRecDepth 20000 in
theorem Vm_scene {x1 : Int32} {g : Sg} {Q : Int32 → Sg → Prop} (h : (((0 ≤ x1 ∧ x1 ≤ 255) → (((g 34 28) = 6 → Q (-4) g) ∧ (¬ (g 34 28) = 6 → vp_in (g 34 28) 6 ∧ Q ((g 34 28) + 1) (sgU (sgU g 54 (g 34 28).toNatClampNeg (x1 ||| 1)) 34 28 ((g 34 28) + 1))))) ∧ (¬ (0 ≤ x1 ∧ x1 ≤ 255) → Q (-2) g))) : Cm_scene x1 g Q := by
  refine Cl.of 0 pl_X9 rfl ?_
  refine e_iload_n (dx D_m_scene 0 rfl) rfl ?_
  refine e_i2l (dx D_m_scene 1 rfl) ?_
  refine q_lconst (v := 0) (dx D_m_scene 2 rfl) (by decide) ?_
  refine e_ldc2 (v := 255) (dx D_m_scene 3 rfl) k1089 ?_
  refine e_callSi (Q1 := fun r g' => bP (0 ≤ x1 ∧ x1 ≤ 255) = r ∧ g = g') (rest := []) [.long (Int32.toInt64 x1), .long 0, .long 255] (dx D_m_scene 4 rfl) ln_m_scene_70 rfl rfl (Nat.le_of_ble_eq_true rfl) (Im_in  ⟨(in32 (a := x1) (b := 0) (c := 255) rfl (by decide) (by decide)).symm, rfl⟩) (fun r g' hh => ?_)
  obtain ⟨rfl, rfl⟩ := hh
  refine e_if_ne (tgt := 15) (dx D_m_scene 5 rfl) (by decide) (fun c => ?_) (fun c => ?_)
  · replace h := h.1 (bP_n c)
    refine e_aload_n (dx D_m_scene 8 rfl) rfl ?_
    refine e_getI (dx D_m_scene 9 rfl) fl_RX9_287 rfl rfl ?_
    refine q_bipush (v := 6) (dx D_m_scene 10 rfl) (by decide) ?_
    refine e_icmp_ne (tgt := 27) (dx D_m_scene 11 rfl) (by decide) (fun c => ?_) (fun c => ?_)
    · replace h := h.2 c
      refine e_aload_n (dx D_m_scene 14 rfl) rfl ?_
      refine e_getR (dx D_m_scene 15 rfl) fl_RX9_67 rfl rfl ?_
      refine e_aload_n (dx D_m_scene 16 rfl) rfl ?_
      refine e_getI (dx D_m_scene 17 rfl) fl_RX9_287 rfl rfl ?_
      refine e_iload_n (dx D_m_scene 18 rfl) rfl ?_
      refine q_iconst (v := 1) (dx D_m_scene 19 rfl) (by decide) ?_
      refine e_ior (dx D_m_scene 20 rfl) ?_
      obtain ⟨hb1, h⟩ := h
      refine e_iast (dx D_m_scene 21 rfl) rfl hb1 ?_
      refine e_aload_n (dx D_m_scene 22 rfl) rfl ?_
      refine e_dup (dx D_m_scene 23 rfl) rfl ?_
      refine e_getI (dx D_m_scene 24 rfl) fl_RX9_287 rfl rfl ?_
      refine q_iconst (v := 1) (dx D_m_scene 25 rfl) (by decide) ?_
      refine e_iadd (dx D_m_scene 26 rfl) ?_
      refine e_putI (dx D_m_scene 27 rfl) fp_RX9_287 rfl rfl ?_
      refine e_aload_n (dx D_m_scene 28 rfl) rfl ?_
      refine e_getI (dx D_m_scene 29 rfl) fl_RX9_287 rfl rfl ?_
      exact e_iret (dx D_m_scene 30 rfl) rfl rfl ⟨_, rfl, h⟩
    · replace h := h.1 c
      refine q_bipush (v := (-4)) (dx D_m_scene 12 rfl) (by decide) ?_
      exact e_iret (dx D_m_scene 13 rfl) rfl rfl ⟨_, rfl, h⟩
  · replace h := h.2 (bP_z c)
    refine q_bipush (v := (-2)) (dx D_m_scene 6 rfl) (by decide) ?_
    exact e_iret (dx D_m_scene 7 rfl) rfl rfl ⟨_, rfl, h⟩
abbrev Cm_scenesOf (x1 : Int32) (g : Sg) (Q : Int32 → Sg → Prop) : Prop := Ci Mm_scenesOf [.ref 34, .int x1] g Q
abbrev Hm_scenesOf_16 (x2 : Int32) (x3 : Int32) (x4 : Int32) (g : Sg) (Q : Int32 → Sg → Prop) : Prop := Hi Mm_scenesOf 16 [some (.ref 34), none, some (.int x2), some (.int x3), some (.int x4)] [] g Q
set_option maxRecDepth 20000 in
theorem Vm_scenesOf {x1 : Int32} {g : Sg} {Q : Int32 → Sg → Prop} (h : Cm_goes x1 g (fun g1 => Cm_burnsNow 0 g1 (fun r3 g2 => Hm_scenesOf_16 r3 0 0 g2 Q))) : Cm_scenesOf x1 g Q := by
  refine Cl.of 3 pl_X9 rfl ?_
  refine e_aload_n (dx D_m_scenesOf 0 rfl) rfl ?_
  refine e_iload_n (dx D_m_scenesOf 1 rfl) rfl ?_
  refine e_callVv (rest := []) [.int x1] (dx D_m_scenesOf 2 rfl) ln_m_scenesOf_183 rfl rfl rfl (Nat.le_of_ble_eq_true rfl) h (fun g1 h => ?_)
  refine e_aload_n (dx D_m_scenesOf 3 rfl) rfl ?_
  refine q_iconst (v := 0) (dx D_m_scenesOf 4 rfl) (by decide) ?_
  refine e_callVi (rest := []) [.int 0] (dx D_m_scenesOf 5 rfl) ln_m_scenesOf_238 rfl rfl rfl (Nat.le_of_ble_eq_true rfl) h (fun r3 g2 h => ?_)
  refine q_istore_n (L' := [some (.ref 34), some (.int x1), some (.int r3), none, none]) (dx D_m_scenesOf 6 rfl) (by decide) rfl ?_
  refine q_iconst (v := 0) (dx D_m_scenesOf 7 rfl) (by decide) ?_
  refine q_istore_n (L' := [some (.ref 34), some (.int x1), some (.int r3), some (.int 0), none]) (dx D_m_scenesOf 8 rfl) (by decide) rfl ?_
  refine q_iconst (v := 0) (dx D_m_scenesOf 9 rfl) (by decide) ?_
  refine q_istore (L' := [some (.ref 34), some (.int x1), some (.int r3), some (.int 0), some (.int 0)]) (dx D_m_scenesOf 10 rfl) (by decide) rfl ?_
  exact Wp.mask [true, false, true, true, true] h
set_option maxRecDepth 20000 in
theorem Vm_scenesOf_16 {x2 : Int32} {x3 : Int32} {x4 : Int32} {g : Sg} {Q : Int32 → Sg → Prop} (h : (((g 34 28) ≤ x4 → Q x3 g) ∧ (¬ (g 34 28) ≤ x4 → vp_in x4 6 ∧ (((g 54 (x4).toNatClampNeg) = x2 → Hm_scenesOf_16 x2 (x3 ||| (sb x4)) (x4 + 1) g Q) ∧ (¬ (g 54 (x4).toNatClampNeg) = x2 → Hm_scenesOf_16 x2 (x3 ||| 0) (x4 + 1) g Q))))) : Hm_scenesOf_16 x2 x3 x4 g Q := by
  refine e_iload (dx D_m_scenesOf 11 rfl) rfl ?_
  refine e_aload_n (dx D_m_scenesOf 12 rfl) rfl ?_
  refine e_getI (dx D_m_scenesOf 13 rfl) fl_RX9_287 rfl rfl ?_
  refine e_icmp_ge (tgt := 53) (dx D_m_scenesOf 14 rfl) (by decide) (fun c => ?_) (fun c => ?_)
  · replace h := h.1 c
    refine e_iload_n (dx D_m_scenesOf 31 rfl) rfl ?_
    exact e_iret (dx D_m_scenesOf 32 rfl) rfl rfl ⟨_, rfl, h⟩
  · replace h := h.2 c
    refine e_iload_n (dx D_m_scenesOf 15 rfl) rfl ?_
    refine e_aload_n (dx D_m_scenesOf 16 rfl) rfl ?_
    refine e_getR (dx D_m_scenesOf 17 rfl) fl_RX9_67 rfl rfl ?_
    refine e_iload (dx D_m_scenesOf 18 rfl) rfl ?_
    obtain ⟨hb1, h⟩ := h
    refine e_iald (dx D_m_scenesOf 19 rfl) rfl hb1 ?_
    refine e_iload_n (dx D_m_scenesOf 20 rfl) rfl ?_
    refine e_icmp_ne (tgt := 44) (dx D_m_scenesOf 21 rfl) (by decide) (fun c => ?_) (fun c => ?_)
    · replace h := h.2 c
      refine q_iconst (v := 0) (dx D_m_scenesOf 26 rfl) (by decide) ?_
      refine e_ior (dx D_m_scenesOf 27 rfl) ?_
      refine q_istore_n (L' := [some (.ref 34), none, some (.int x2), some (.int (x3 ||| 0)), some (.int x4)]) (dx D_m_scenesOf 28 rfl) (by decide) rfl ?_
      refine q_iinc (d := 1) (L' := [some (.ref 34), none, some (.int x2), some (.int (x3 ||| 0)), some (.int (x4 + 1))]) (dx D_m_scenesOf 29 rfl) rfl (by decide) (by decide) rfl ?_
      refine e_goto (tgt := 16) (dx D_m_scenesOf 30 rfl) (by decide) ?_
      exact h
    · replace h := h.1 c
      refine q_iconst (v := 1) (dx D_m_scenesOf 22 rfl) (by decide) ?_
      refine e_iload (dx D_m_scenesOf 23 rfl) rfl ?_
      refine e_ishl (dx D_m_scenesOf 24 rfl) ?_
      refine e_goto (tgt := 45) (dx D_m_scenesOf 25 rfl) (by decide) ?_
      refine e_ior (dx D_m_scenesOf 27 rfl) ?_
      refine q_istore_n (L' := [some (.ref 34), none, some (.int x2), some (.int (x3 ||| (sb x4))), some (.int x4)]) (dx D_m_scenesOf 28 rfl) (by decide) rfl ?_
      refine q_iinc (d := 1) (L' := [some (.ref 34), none, some (.int x2), some (.int (x3 ||| (sb x4))), some (.int (x4 + 1))]) (dx D_m_scenesOf 29 rfl) rfl (by decide) (by decide) rfl ?_
      refine e_goto (tgt := 16) (dx D_m_scenesOf 30 rfl) (by decide) ?_
      exact h
abbrev Cm_scenes (x1 : Int32) (g : Sg) (Q : Int32 → Sg → Prop) : Prop := Ci Mm_scenes [.ref 34, .int x1] g Q
set_option maxRecDepth 20000 in
theorem Vm_scenes {x1 : Int32} {g : Sg} {Q : Int32 → Sg → Prop} (h : (((0 ≤ x1 ∧ x1 ≤ (g 34 11)) → Cm_scenesOf x1 g (fun r2 g1 => Q r2 g1)) ∧ (¬ (0 ≤ x1 ∧ x1 ≤ (g 34 11)) → Q (-2) g))) : Cm_scenes x1 g Q := by
  refine Cl.of 0 pl_X9 rfl ?_
  refine e_iload_n (dx D_m_scenes 0 rfl) rfl ?_
  refine e_i2l (dx D_m_scenes 1 rfl) ?_
  refine q_lconst (v := 0) (dx D_m_scenes 2 rfl) (by decide) ?_
  refine e_aload_n (dx D_m_scenes 3 rfl) rfl ?_
  refine e_getI (dx D_m_scenes 4 rfl) fl_RX9_133 rfl rfl ?_
  refine e_i2l (dx D_m_scenes 5 rfl) ?_
  refine e_callSi (Q1 := fun r g' => bP (0 ≤ x1 ∧ x1 ≤ (g 34 11)) = r ∧ g = g') (rest := []) [.long (Int32.toInt64 x1), .long 0, .long (Int32.toInt64 (g 34 11))] (dx D_m_scenes 6 rfl) ln_m_scenes_70 rfl rfl (Nat.le_of_ble_eq_true rfl) (Im_in  ⟨(in32 (a := x1) (b := 0) (c := (g 34 11)) rfl (by decide) rfl).symm, rfl⟩) (fun r g' hh => ?_)
  obtain ⟨rfl, rfl⟩ := hh
  refine e_if_eq (tgt := 22) (dx D_m_scenes 7 rfl) (by decide) (fun c => ?_) (fun c => ?_)
  · replace h := h.2 (bP_z c)
    refine q_bipush (v := (-2)) (dx D_m_scenes 12 rfl) (by decide) ?_
    exact e_iret (dx D_m_scenes 13 rfl) rfl rfl ⟨_, rfl, h⟩
  · replace h := h.1 (bP_n c)
    refine e_aload_n (dx D_m_scenes 8 rfl) rfl ?_
    refine e_iload_n (dx D_m_scenes 9 rfl) rfl ?_
    refine e_callVi (rest := []) [.int x1] (dx D_m_scenes 10 rfl) ln_m_scenes_290 rfl rfl rfl (Nat.le_of_ble_eq_true rfl) h (fun r2 g1 h => ?_)
    refine e_goto (tgt := 24) (dx D_m_scenes 11 rfl) (by decide) ?_
    exact e_iret (dx D_m_scenes 13 rfl) rfl rfl ⟨_, rfl, h⟩
abbrev Cm_cueOf (x1 : Int32) (g : Sg) (Q : Int32 → Sg → Prop) : Prop := Ci Mm_cueOf [.ref 34, .int x1] g Q
abbrev Hm_cueOf_2 (x1 : Int32) (x2 : Int32) (g : Sg) (Q : Int32 → Sg → Prop) : Prop := Hi Mm_cueOf 2 [some (.ref 34), some (.int x1), some (.int x2)] [] g Q
set_option maxRecDepth 20000 in
theorem Vm_cueOf {x1 : Int32} {g : Sg} {Q : Int32 → Sg → Prop} (h : Hm_cueOf_2 x1 0 g Q) : Cm_cueOf x1 g Q := by
  refine Cl.of 1 pl_X9 rfl ?_
  refine q_iconst (v := 0) (dx D_m_cueOf 0 rfl) (by decide) ?_
  refine q_istore_n (L' := [some (.ref 34), some (.int x1), some (.int 0)]) (dx D_m_cueOf 1 rfl) (by decide) rfl ?_
  exact h
set_option maxRecDepth 20000 in
theorem Vm_cueOf_2 {x1 : Int32} {x2 : Int32} {g : Sg} {Q : Int32 → Sg → Prop} (h : (((g 34 11) < x2 → Q (-1) g) ∧ (¬ (g 34 11) < x2 → Cm_scenesOf x2 g (fun r2 g1 => (((tbb r2 x1 = true) → Q x2 g1) ∧ (¬ (tbb r2 x1 = true) → Hm_cueOf_2 x1 (x2 + 1) g1 Q)))))) : Hm_cueOf_2 x1 x2 g Q := by
  refine e_iload_n (dx D_m_cueOf 2 rfl) rfl ?_
  refine e_aload_n (dx D_m_cueOf 3 rfl) rfl ?_
  refine e_getI (dx D_m_cueOf 4 rfl) fl_RX9_133 rfl rfl ?_
  refine e_icmp_gt (tgt := 30) (dx D_m_cueOf 5 rfl) (by decide) (fun c => ?_) (fun c => ?_)
  · replace h := h.1 c
    refine q_iconst (v := (-1)) (dx D_m_cueOf 16 rfl) (by decide) ?_
    exact e_iret (dx D_m_cueOf 17 rfl) rfl rfl ⟨_, rfl, h⟩
  · replace h := h.2 c
    refine e_aload_n (dx D_m_cueOf 6 rfl) rfl ?_
    refine e_iload_n (dx D_m_cueOf 7 rfl) rfl ?_
    refine e_callVi (rest := []) [.int x2] (dx D_m_cueOf 8 rfl) ln_m_cueOf_290 rfl rfl rfl (Nat.le_of_ble_eq_true rfl) h (fun r2 g1 h => ?_)
    refine e_iload_n (dx D_m_cueOf 9 rfl) rfl ?_
    refine e_callSi (Q1 := fun r g' => bP (tbb r2 x1 = true) = r ∧ g1 = g') (rest := []) [.int r2, .int x1] (dx D_m_cueOf 10 rfl) ln_m_cueOf_149 rfl rfl (Nat.le_of_ble_eq_true rfl) (Im_isIn  ⟨rfl, rfl⟩) (fun r g' hh => ?_)
    obtain ⟨rfl, rfl⟩ := hh
    refine e_if_eq (tgt := 24) (dx D_m_cueOf 11 rfl) (by decide) (fun c => ?_) (fun c => ?_)
    · replace h := h.2 (bP_z c)
      refine q_iinc (d := 1) (L' := [some (.ref 34), some (.int x1), some (.int (x2 + 1))]) (dx D_m_cueOf 14 rfl) rfl (by decide) (by decide) rfl ?_
      refine e_goto (tgt := 2) (dx D_m_cueOf 15 rfl) (by decide) ?_
      exact h
    · replace h := h.1 (bP_n c)
      refine e_iload_n (dx D_m_cueOf 12 rfl) rfl ?_
      exact e_iret (dx D_m_cueOf 13 rfl) rfl rfl ⟨_, rfl, h⟩
abbrev Cm_cue (x1 : Int32) (g : Sg) (Q : Int32 → Sg → Prop) : Prop := Ci Mm_cue [.ref 34, .int x1] g Q
set_option maxRecDepth 20000 in
theorem Vm_cue {x1 : Int32} {g : Sg} {Q : Int32 → Sg → Prop} (h : (((0 ≤ x1 ∧ x1 ≤ ((g 34 28) - 1)) → Cm_cueOf x1 g (fun r2 g1 => Q r2 g1)) ∧ (¬ (0 ≤ x1 ∧ x1 ≤ ((g 34 28) - 1)) → Q (-2) g))) : Cm_cue x1 g Q := by
  refine Cl.of 0 pl_X9 rfl ?_
  refine e_iload_n (dx D_m_cue 0 rfl) rfl ?_
  refine e_i2l (dx D_m_cue 1 rfl) ?_
  refine q_lconst (v := 0) (dx D_m_cue 2 rfl) (by decide) ?_
  refine e_aload_n (dx D_m_cue 3 rfl) rfl ?_
  refine e_getI (dx D_m_cue 4 rfl) fl_RX9_287 rfl rfl ?_
  refine q_iconst (v := 1) (dx D_m_cue 5 rfl) (by decide) ?_
  refine e_isub (dx D_m_cue 6 rfl) ?_
  refine e_i2l (dx D_m_cue 7 rfl) ?_
  refine e_callSi (Q1 := fun r g' => bP (0 ≤ x1 ∧ x1 ≤ ((g 34 28) - 1)) = r ∧ g = g') (rest := []) [.long (Int32.toInt64 x1), .long 0, .long (Int32.toInt64 ((g 34 28) - 1))] (dx D_m_cue 8 rfl) ln_m_cue_70 rfl rfl (Nat.le_of_ble_eq_true rfl) (Im_in  ⟨(in32 (a := x1) (b := 0) (c := ((g 34 28) - 1)) rfl (by decide) rfl).symm, rfl⟩) (fun r g' hh => ?_)
  obtain ⟨rfl, rfl⟩ := hh
  refine e_if_eq (tgt := 24) (dx D_m_cue 9 rfl) (by decide) (fun c => ?_) (fun c => ?_)
  · replace h := h.2 (bP_z c)
    refine q_bipush (v := (-2)) (dx D_m_cue 14 rfl) (by decide) ?_
    exact e_iret (dx D_m_cue 15 rfl) rfl rfl ⟨_, rfl, h⟩
  · replace h := h.1 (bP_n c)
    refine e_aload_n (dx D_m_cue 10 rfl) rfl ?_
    refine e_iload_n (dx D_m_cue 11 rfl) rfl ?_
    refine e_callVi (rest := []) [.int x1] (dx D_m_cue 12 rfl) ln_m_cue_293 rfl rfl rfl (Nat.le_of_ble_eq_true rfl) h (fun r2 g1 h => ?_)
    refine e_goto (tgt := 26) (dx D_m_cue 13 rfl) (by decide) ?_
    exact e_iret (dx D_m_cue 15 rfl) rfl rfl ⟨_, rfl, h⟩
abbrev Cm_forget (x1 : Int32) (g : Sg) (Q : Int32 → Sg → Prop) : Prop := Ci Mm_forget [.ref 34, .int x1] g Q
set_option maxRecDepth 20000 in
theorem Vm_forget {x1 : Int32} {g : Sg} {Q : Int32 → Sg → Prop} (h : (((0 ≤ x1 ∧ x1 ≤ 1) → ((x1 = 0 → ((x1 = 0 → ((x1 = 1 → Q (g 34 26) (sgU (sgU g 34 26 0) 34 28 0)) ∧ (¬ x1 = 1 → Q (g 34 26) (sgU (sgU g 34 26 0) 34 28 (g 34 28))))) ∧ (¬ x1 = 0 → ((x1 = 1 → Q (g 34 26) (sgU (sgU g 34 26 (g 34 26)) 34 28 0)) ∧ (¬ x1 = 1 → Q (g 34 26) (sgU (sgU g 34 26 (g 34 26)) 34 28 (g 34 28))))))) ∧ (¬ x1 = 0 → ((x1 = 0 → ((x1 = 1 → Q (g 34 28) (sgU (sgU g 34 26 0) 34 28 0)) ∧ (¬ x1 = 1 → Q (g 34 28) (sgU (sgU g 34 26 0) 34 28 (g 34 28))))) ∧ (¬ x1 = 0 → ((x1 = 1 → Q (g 34 28) (sgU (sgU g 34 26 (g 34 26)) 34 28 0)) ∧ (¬ x1 = 1 → Q (g 34 28) (sgU (sgU g 34 26 (g 34 26)) 34 28 (g 34 28))))))))) ∧ (¬ (0 ≤ x1 ∧ x1 ≤ 1) → Q (-2) g))) : Cm_forget x1 g Q := by
  refine Cl.of 1 pl_X9 rfl ?_
  refine e_iload_n (dx D_m_forget 0 rfl) rfl ?_
  refine e_callSi (Q1 := fun r g' => bP (0 ≤ x1 ∧ x1 ≤ 1) = r ∧ g = g') (rest := []) [.int x1] (dx D_m_forget 1 rfl) ln_m_forget_192 rfl rfl (Nat.le_of_ble_eq_true rfl) (Im_isTwo  ⟨rfl, rfl⟩) (fun r g' hh => ?_)
  obtain ⟨rfl, rfl⟩ := hh
  refine e_if_ne (tgt := 10) (dx D_m_forget 2 rfl) (by decide) (fun c => ?_) (fun c => ?_)
  · replace h := h.1 (bP_n c)
    refine e_iload_n (dx D_m_forget 5 rfl) rfl ?_
    refine e_if_ne (tgt := 21) (dx D_m_forget 6 rfl) (by decide) (fun c => ?_) (fun c => ?_)
    · replace h := h.2 c
      refine e_aload_n (dx D_m_forget 10 rfl) rfl ?_
      refine e_getI (dx D_m_forget 11 rfl) fl_RX9_287 rfl rfl ?_
      refine q_istore_n (L' := [some (.ref 34), some (.int x1), some (.int (g 34 28))]) (dx D_m_forget 12 rfl) (by decide) rfl ?_
      refine e_aload_n (dx D_m_forget 13 rfl) rfl ?_
      refine e_iload_n (dx D_m_forget 14 rfl) rfl ?_
      refine e_if_ne (tgt := 35) (dx D_m_forget 15 rfl) (by decide) (fun c => ?_) (fun c => ?_)
      · replace h := h.2 c
        refine e_aload_n (dx D_m_forget 18 rfl) rfl ?_
        refine e_getI (dx D_m_forget 19 rfl) fl_RX9_281 rfl rfl ?_
        refine e_putI (dx D_m_forget 20 rfl) fp_RX9_281 rfl rfl ?_
        refine e_aload_n (dx D_m_forget 21 rfl) rfl ?_
        refine e_iload_n (dx D_m_forget 22 rfl) rfl ?_
        refine q_iconst (v := 1) (dx D_m_forget 23 rfl) (by decide) ?_
        refine e_icmp_ne (tgt := 52) (dx D_m_forget 24 rfl) (by decide) (fun c => ?_) (fun c => ?_)
        · replace h := h.2 c
          refine e_aload_n (dx D_m_forget 27 rfl) rfl ?_
          refine e_getI (dx D_m_forget 28 rfl) fl_RX9_287 rfl rfl ?_
          refine e_putI (dx D_m_forget 29 rfl) fp_RX9_287 rfl rfl ?_
          refine e_iload_n (dx D_m_forget 30 rfl) rfl ?_
          exact e_iret (dx D_m_forget 31 rfl) rfl rfl ⟨_, rfl, h⟩
        · replace h := h.1 c
          refine q_iconst (v := 0) (dx D_m_forget 25 rfl) (by decide) ?_
          refine e_goto (tgt := 56) (dx D_m_forget 26 rfl) (by decide) ?_
          refine e_putI (dx D_m_forget 29 rfl) fp_RX9_287 rfl rfl ?_
          refine e_iload_n (dx D_m_forget 30 rfl) rfl ?_
          exact e_iret (dx D_m_forget 31 rfl) rfl rfl ⟨_, rfl, h⟩
      · replace h := h.1 c
        refine q_iconst (v := 0) (dx D_m_forget 16 rfl) (by decide) ?_
        refine e_goto (tgt := 39) (dx D_m_forget 17 rfl) (by decide) ?_
        refine e_putI (dx D_m_forget 20 rfl) fp_RX9_281 rfl rfl ?_
        refine e_aload_n (dx D_m_forget 21 rfl) rfl ?_
        refine e_iload_n (dx D_m_forget 22 rfl) rfl ?_
        refine q_iconst (v := 1) (dx D_m_forget 23 rfl) (by decide) ?_
        refine e_icmp_ne (tgt := 52) (dx D_m_forget 24 rfl) (by decide) (fun c => ?_) (fun c => ?_)
        · replace h := h.2 c
          refine e_aload_n (dx D_m_forget 27 rfl) rfl ?_
          refine e_getI (dx D_m_forget 28 rfl) fl_RX9_287 rfl rfl ?_
          refine e_putI (dx D_m_forget 29 rfl) fp_RX9_287 rfl rfl ?_
          refine e_iload_n (dx D_m_forget 30 rfl) rfl ?_
          exact e_iret (dx D_m_forget 31 rfl) rfl rfl ⟨_, rfl, h⟩
        · replace h := h.1 c
          refine q_iconst (v := 0) (dx D_m_forget 25 rfl) (by decide) ?_
          refine e_goto (tgt := 56) (dx D_m_forget 26 rfl) (by decide) ?_
          refine e_putI (dx D_m_forget 29 rfl) fp_RX9_287 rfl rfl ?_
          refine e_iload_n (dx D_m_forget 30 rfl) rfl ?_
          exact e_iret (dx D_m_forget 31 rfl) rfl rfl ⟨_, rfl, h⟩
    · replace h := h.1 c
      refine e_aload_n (dx D_m_forget 7 rfl) rfl ?_
      refine e_getI (dx D_m_forget 8 rfl) fl_RX9_281 rfl rfl ?_
      refine e_goto (tgt := 25) (dx D_m_forget 9 rfl) (by decide) ?_
      refine q_istore_n (L' := [some (.ref 34), some (.int x1), some (.int (g 34 26))]) (dx D_m_forget 12 rfl) (by decide) rfl ?_
      refine e_aload_n (dx D_m_forget 13 rfl) rfl ?_
      refine e_iload_n (dx D_m_forget 14 rfl) rfl ?_
      refine e_if_ne (tgt := 35) (dx D_m_forget 15 rfl) (by decide) (fun c => ?_) (fun c => ?_)
      · replace h := h.2 c
        refine e_aload_n (dx D_m_forget 18 rfl) rfl ?_
        refine e_getI (dx D_m_forget 19 rfl) fl_RX9_281 rfl rfl ?_
        refine e_putI (dx D_m_forget 20 rfl) fp_RX9_281 rfl rfl ?_
        refine e_aload_n (dx D_m_forget 21 rfl) rfl ?_
        refine e_iload_n (dx D_m_forget 22 rfl) rfl ?_
        refine q_iconst (v := 1) (dx D_m_forget 23 rfl) (by decide) ?_
        refine e_icmp_ne (tgt := 52) (dx D_m_forget 24 rfl) (by decide) (fun c => ?_) (fun c => ?_)
        · replace h := h.2 c
          refine e_aload_n (dx D_m_forget 27 rfl) rfl ?_
          refine e_getI (dx D_m_forget 28 rfl) fl_RX9_287 rfl rfl ?_
          refine e_putI (dx D_m_forget 29 rfl) fp_RX9_287 rfl rfl ?_
          refine e_iload_n (dx D_m_forget 30 rfl) rfl ?_
          exact e_iret (dx D_m_forget 31 rfl) rfl rfl ⟨_, rfl, h⟩
        · replace h := h.1 c
          refine q_iconst (v := 0) (dx D_m_forget 25 rfl) (by decide) ?_
          refine e_goto (tgt := 56) (dx D_m_forget 26 rfl) (by decide) ?_
          refine e_putI (dx D_m_forget 29 rfl) fp_RX9_287 rfl rfl ?_
          refine e_iload_n (dx D_m_forget 30 rfl) rfl ?_
          exact e_iret (dx D_m_forget 31 rfl) rfl rfl ⟨_, rfl, h⟩
      · replace h := h.1 c
        refine q_iconst (v := 0) (dx D_m_forget 16 rfl) (by decide) ?_
        refine e_goto (tgt := 39) (dx D_m_forget 17 rfl) (by decide) ?_
        refine e_putI (dx D_m_forget 20 rfl) fp_RX9_281 rfl rfl ?_
        refine e_aload_n (dx D_m_forget 21 rfl) rfl ?_
        refine e_iload_n (dx D_m_forget 22 rfl) rfl ?_
        refine q_iconst (v := 1) (dx D_m_forget 23 rfl) (by decide) ?_
        refine e_icmp_ne (tgt := 52) (dx D_m_forget 24 rfl) (by decide) (fun c => ?_) (fun c => ?_)
        · replace h := h.2 c
          refine e_aload_n (dx D_m_forget 27 rfl) rfl ?_
          refine e_getI (dx D_m_forget 28 rfl) fl_RX9_287 rfl rfl ?_
          refine e_putI (dx D_m_forget 29 rfl) fp_RX9_287 rfl rfl ?_
          refine e_iload_n (dx D_m_forget 30 rfl) rfl ?_
          exact e_iret (dx D_m_forget 31 rfl) rfl rfl ⟨_, rfl, h⟩
        · replace h := h.1 c
          refine q_iconst (v := 0) (dx D_m_forget 25 rfl) (by decide) ?_
          refine e_goto (tgt := 56) (dx D_m_forget 26 rfl) (by decide) ?_
          refine e_putI (dx D_m_forget 29 rfl) fp_RX9_287 rfl rfl ?_
          refine e_iload_n (dx D_m_forget 30 rfl) rfl ?_
          exact e_iret (dx D_m_forget 31 rfl) rfl rfl ⟨_, rfl, h⟩
  · replace h := h.2 (bP_z c)
    refine q_bipush (v := (-2)) (dx D_m_forget 3 rfl) (by decide) ?_
    exact e_iret (dx D_m_forget 4 rfl) rfl rfl ⟨_, rfl, h⟩
