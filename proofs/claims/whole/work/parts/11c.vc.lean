abbrev Cm_write (x1 : Int32) (x2 : Int32) (x3 : Int32) (g : Sg) (Q : Int32 → Sg → Prop) : Prop := Ci Mm_write [.ref 34, .int x1, .int x2, .int x3] g Q
abbrev Hm_write_82 (x3 : Int32) (x5 : Int32) (x6 : Int32) (g : Sg) (Q : Int32 → Sg → Prop) : Prop := Hi Mm_write 82 [some (.ref 34), none, none, some (.int x3), none, some (.int x5), some (.int x6)] [] g Q
set_option maxRecDepth 20000 in
theorem Vm_write {x1 : Int32} {x2 : Int32} {x3 : Int32} {g : Sg} {Q : Int32 → Sg → Prop} (h : (((twoE x1 x2) → (((isS x3) → vp_in x3 4 ∧ ((0 ≤ (g 35 (x3).toNatClampNeg) → Cm_goesAll g (fun g2 => Cm_findWay x1 x2 g2 (fun r4 g3 => ((r4 = (-1) → Hm_write_82 x3 0 0 g3 Q) ∧ (¬ r4 = (-1) → vp_in x3 4 ∧ (((g3 36 (x3).toNatClampNeg) ≤ r4 → vp_in x3 4 ∧ Hm_write_82 x3 (g3 36 (x3).toNatClampNeg) 0 g3 Q) ∧ (¬ (g3 36 (x3).toNatClampNeg) ≤ r4 → Hm_write_82 x3 r4 0 g3 Q))))))) ∧ (¬ 0 ≤ (g 35 (x3).toNatClampNeg) → Q ((-10) - 1) (sgU g 34 4 1)))) ∧ (¬ (isS x3) → Q (-2) g))) ∧ (¬ (twoE x1 x2) → Q (-2) g))) : Cm_write x1 x2 x3 g Q := by
  refine Cl.of 3 pl_X9 rfl ?_
  refine e_iload_n (dx D_m_write 0 rfl) rfl ?_
  refine e_iload_n (dx D_m_write 1 rfl) rfl ?_
  refine e_callSi (Q1 := fun r g' => bP (twoE x1 x2) = r ∧ g = g') (rest := []) [.int x1, .int x2] (dx D_m_write 2 rfl) ln_m_write_136 rfl rfl (Nat.le_of_ble_eq_true rfl) (Im_areEnds  ⟨rfl, rfl⟩) (fun r g' hh => ?_)
  obtain ⟨rfl, rfl⟩ := hh
  refine e_if_eq (tgt := 15) (dx D_m_write 3 rfl) (by decide) (fun c => ?_) (fun c => ?_)
  · replace h := h.2 (bP_z c)
    refine q_bipush (v := (-2)) (dx D_m_write 7 rfl) (by decide) ?_
    exact e_iret (dx D_m_write 8 rfl) rfl rfl ⟨_, rfl, h⟩
  · replace h := h.1 (bP_n c)
    refine e_iload_n (dx D_m_write 4 rfl) rfl ?_
    refine e_callSi (Q1 := fun r g' => bP (isS x3) = r ∧ g = g') (rest := []) [.int x3] (dx D_m_write 5 rfl) ln_m_write_80 rfl rfl (Nat.le_of_ble_eq_true rfl) (Im_isSheet  ⟨rfl, rfl⟩) (fun r g' hh => ?_)
    obtain ⟨rfl, rfl⟩ := hh
    refine e_if_ne (tgt := 18) (dx D_m_write 6 rfl) (by decide) (fun c => ?_) (fun c => ?_)
    · replace h := h.1 (bP_n c)
      refine e_aload_n (dx D_m_write 9 rfl) rfl ?_
      refine e_getR (dx D_m_write 10 rfl) fl_RX9_7 rfl rfl ?_
      refine e_iload_n (dx D_m_write 11 rfl) rfl ?_
      obtain ⟨hb1, h⟩ := h
      refine e_iald (dx D_m_write 12 rfl) rfl hb1 ?_
      refine e_if_ge (tgt := 33) (dx D_m_write 13 rfl) (by decide) (fun c => ?_) (fun c => ?_)
      · replace h := h.1 c
        refine e_aload_n (dx D_m_write 18 rfl) rfl ?_
        refine e_callVv (rest := []) [] (dx D_m_write 19 rfl) ln_m_write_186 rfl rfl rfl (Nat.le_of_ble_eq_true rfl) h (fun g2 h => ?_)
        refine e_aload_n (dx D_m_write 20 rfl) rfl ?_
        refine e_iload_n (dx D_m_write 21 rfl) rfl ?_
        refine e_iload_n (dx D_m_write 22 rfl) rfl ?_
        refine e_callVi (rest := []) [.int x1, .int x2] (dx D_m_write 23 rfl) ln_m_write_162 rfl rfl rfl (Nat.le_of_ble_eq_true rfl) h (fun r4 g3 h => ?_)
        refine q_istore (L' := [some (.ref 34), some (.int x1), some (.int x2), some (.int x3), some (.int r4), none, none]) (dx D_m_write 24 rfl) (by decide) rfl ?_
        refine e_iload (dx D_m_write 25 rfl) rfl ?_
        refine q_iconst (v := (-1)) (dx D_m_write 26 rfl) (by decide) ?_
        refine e_icmp_ne (tgt := 55) (dx D_m_write 27 rfl) (by decide) (fun c => ?_) (fun c => ?_)
        · replace h := h.2 c
          refine e_iload (dx D_m_write 30 rfl) rfl ?_
          refine e_aload_n (dx D_m_write 31 rfl) rfl ?_
          refine e_getR (dx D_m_write 32 rfl) fl_RX9_13 rfl rfl ?_
          refine e_iload_n (dx D_m_write 33 rfl) rfl ?_
          obtain ⟨hb5, h⟩ := h
          refine e_iald (dx D_m_write 34 rfl) rfl hb5 ?_
          refine e_icmp_ge (tgt := 71) (dx D_m_write 35 rfl) (by decide) (fun c => ?_) (fun c => ?_)
          · replace h := h.1 c
            refine e_aload_n (dx D_m_write 38 rfl) rfl ?_
            refine e_getR (dx D_m_write 39 rfl) fl_RX9_13 rfl rfl ?_
            refine e_iload_n (dx D_m_write 40 rfl) rfl ?_
            obtain ⟨hb6, h⟩ := h
            refine e_iald (dx D_m_write 41 rfl) rfl hb6 ?_
            refine q_istore (L' := [some (.ref 34), some (.int x1), some (.int x2), some (.int x3), some (.int r4), some (.int (g3 36 (x3).toNatClampNeg)), none]) (dx D_m_write 42 rfl) (by decide) rfl ?_
            refine q_iconst (v := 0) (dx D_m_write 43 rfl) (by decide) ?_
            refine q_istore (L' := [some (.ref 34), some (.int x1), some (.int x2), some (.int x3), some (.int r4), some (.int (g3 36 (x3).toNatClampNeg)), some (.int 0)]) (dx D_m_write 44 rfl) (by decide) rfl ?_
            exact Wp.mask [true, false, false, true, false, true, true] h
          · replace h := h.2 c
            refine e_iload (dx D_m_write 36 rfl) rfl ?_
            refine e_goto (tgt := 77) (dx D_m_write 37 rfl) (by decide) ?_
            refine q_istore (L' := [some (.ref 34), some (.int x1), some (.int x2), some (.int x3), some (.int r4), some (.int r4), none]) (dx D_m_write 42 rfl) (by decide) rfl ?_
            refine q_iconst (v := 0) (dx D_m_write 43 rfl) (by decide) ?_
            refine q_istore (L' := [some (.ref 34), some (.int x1), some (.int x2), some (.int x3), some (.int r4), some (.int r4), some (.int 0)]) (dx D_m_write 44 rfl) (by decide) rfl ?_
            exact Wp.mask [true, false, false, true, false, true, true] h
        · replace h := h.1 c
          refine q_iconst (v := 0) (dx D_m_write 28 rfl) (by decide) ?_
          refine e_goto (tgt := 77) (dx D_m_write 29 rfl) (by decide) ?_
          refine q_istore (L' := [some (.ref 34), some (.int x1), some (.int x2), some (.int x3), some (.int r4), some (.int 0), none]) (dx D_m_write 42 rfl) (by decide) rfl ?_
          refine q_iconst (v := 0) (dx D_m_write 43 rfl) (by decide) ?_
          refine q_istore (L' := [some (.ref 34), some (.int x1), some (.int x2), some (.int x3), some (.int r4), some (.int 0), some (.int 0)]) (dx D_m_write 44 rfl) (by decide) rfl ?_
          exact Wp.mask [true, false, false, true, false, true, true] h
      · replace h := h.2 c
        refine e_aload_n (dx D_m_write 14 rfl) rfl ?_
        refine q_iconst (v := 1) (dx D_m_write 15 rfl) (by decide) ?_
        refine e_callVi (Q1 := fun r g' => ((-10) - 1) = r ∧ (sgU g 34 4 1) = g') (rest := []) [.int 1] (dx D_m_write 16 rfl) ln_m_write_86 rfl rfl rfl (Nat.le_of_ble_eq_true rfl) (Im_finds  ⟨rfl, rfl⟩) (fun r g' hh => ?_)
        obtain ⟨rfl, rfl⟩ := hh
        exact e_iret (dx D_m_write 17 rfl) rfl rfl ⟨_, rfl, h⟩
    · replace h := h.2 (bP_z c)
      refine q_bipush (v := (-2)) (dx D_m_write 7 rfl) (by decide) ?_
      exact e_iret (dx D_m_write 8 rfl) rfl rfl ⟨_, rfl, h⟩
set_option maxRecDepth 20000 in
theorem Vm_write_82 {x3 : Int32} {x5 : Int32} {x6 : Int32} {g : Sg} {Q : Int32 → Sg → Prop} (h : ((x5 ≤ x6 → Q x5 g) ∧ (¬ x5 ≤ x6 → vp_in x3 4 ∧ vp_in x6 16 ∧ vp_in ((60 * x3) + x6) 240 ∧ Hm_write_82 x3 x5 (x6 + 1) (sgU g 37 ((60 * x3) + x6).toNatClampNeg (nrw (g 35 (x3).toNatClampNeg) (g 46 (x6).toNatClampNeg))) Q))) : Hm_write_82 x3 x5 x6 g Q := by
  refine e_iload (dx D_m_write 45 rfl) rfl ?_
  refine e_iload (dx D_m_write 46 rfl) rfl ?_
  refine e_icmp_ge (tgt := 123) (dx D_m_write 47 rfl) (by decide) (fun c => ?_) (fun c => ?_)
  · replace h := h.1 c
    refine e_iload (dx D_m_write 67 rfl) rfl ?_
    exact e_iret (dx D_m_write 68 rfl) rfl rfl ⟨_, rfl, h⟩
  · replace h := h.2 c
    refine e_aload_n (dx D_m_write 48 rfl) rfl ?_
    refine e_getR (dx D_m_write 49 rfl) fl_RX9_16 rfl rfl ?_
    refine q_bipush (v := 60) (dx D_m_write 50 rfl) (by decide) ?_
    refine e_iload_n (dx D_m_write 51 rfl) rfl ?_
    refine e_imul (dx D_m_write 52 rfl) ?_
    refine e_iload (dx D_m_write 53 rfl) rfl ?_
    refine e_iadd (dx D_m_write 54 rfl) ?_
    refine e_aload_n (dx D_m_write 55 rfl) rfl ?_
    refine e_getR (dx D_m_write 56 rfl) fl_RX9_7 rfl rfl ?_
    refine e_iload_n (dx D_m_write 57 rfl) rfl ?_
    obtain ⟨hb1, h⟩ := h
    refine e_iald (dx D_m_write 58 rfl) rfl hb1 ?_
    refine e_aload_n (dx D_m_write 59 rfl) rfl ?_
    refine e_getR (dx D_m_write 60 rfl) fl_RX9_43 rfl rfl ?_
    refine e_iload (dx D_m_write 61 rfl) rfl ?_
    obtain ⟨hb2, h⟩ := h
    refine e_iald (dx D_m_write 62 rfl) rfl hb2 ?_
    refine e_callSi (Q1 := fun r g' => (nrw (g 35 (x3).toNatClampNeg) (g 46 (x6).toNatClampNeg)) = r ∧ g = g') (rest := [.int ((60 * x3) + x6), .ref 37]) [.int (g 35 (x3).toNatClampNeg), .int (g 46 (x6).toNatClampNeg)] (dx D_m_write 63 rfl) ln_m_write_94 rfl rfl (Nat.le_of_ble_eq_true rfl) (Im_cut  ⟨rfl, rfl⟩) (fun r g' hh => ?_)
    obtain ⟨rfl, rfl⟩ := hh
    obtain ⟨hb3, h⟩ := h
    refine e_iast (dx D_m_write 64 rfl) rfl hb3 ?_
    refine q_iinc (d := 1) (L' := [some (.ref 34), none, none, some (.int x3), none, some (.int x5), some (.int (x6 + 1))]) (dx D_m_write 65 rfl) rfl (by decide) (by decide) rfl ?_
    refine e_goto (tgt := 82) (dx D_m_write 66 rfl) (by decide) ?_
    exact h
abbrev Cm_count (x1 : Int32) (g : Sg) (Q : Int32 → Sg → Prop) : Prop := Ci Mm_count [.ref 34, .int x1] g Q
abbrev Hm_count_96 (x2 : Int32) (x3 : Int32) (g : Sg) (Q : Int32 → Sg → Prop) : Prop := Hi Mm_count 96 [some (.ref 34), none, some (.int x2), some (.int x3)] [] g Q
set_option maxRecDepth 20000 in
theorem Vm_count {x1 : Int32} {g : Sg} {Q : Int32 → Sg → Prop} (h : Cm_goesAll g (fun g1 => (((x1).toInt < 0 ∨ 8 < (x1).toInt → Q (-2) g1) ∧ (x1 = 0 → Q (g1 34 8) g1) ∧ (x1 = 1 → Q (g1 34 6) g1) ∧ (x1 = 2 → Q (g1 34 11) g1) ∧ (x1 = 3 → Q (g1 34 16) g1) ∧ (x1 = 4 → Cm_ones (g1 34 15) g1 (fun r3 g2 => Q r3 g2)) ∧ (x1 = 5 → Q (g1 34 26) g1) ∧ (x1 = 6 → Q (g1 34 28) g1) ∧ (x1 = 7 → Hm_count_96 0 0 g1 Q) ∧ (x1 = 8 → Q (g1 34 4) g1)))) : Cm_count x1 g Q := by
  refine Cl.of 2 pl_X9 rfl ?_
  refine q_iconst (v := 0) (dx D_m_count 0 rfl) (by decide) ?_
  refine q_istore_n (L' := [some (.ref 34), some (.int x1), some (.int 0), none]) (dx D_m_count 1 rfl) (by decide) rfl ?_
  refine e_aload_n (dx D_m_count 2 rfl) rfl ?_
  refine e_callVv (rest := []) [] (dx D_m_count 3 rfl) ln_m_count_186 rfl rfl rfl (Nat.le_of_ble_eq_true rfl) h (fun g1 h => ?_)
  refine e_iload_n (dx D_m_count 4 rfl) rfl ?_
  refine q_tbl [56, 61, 66, 71, 76, 84, 89, 94, 125] 130 (dx D_m_count 5 rfl) (by decide) (by decide) (by decide) (fun c => ?_) (fun i t ht c => ?_)
  · replace h := h.1 c
    refine q_bipush (v := (-2)) (dx D_m_count 52 rfl) (by decide) ?_
    exact e_iret (dx D_m_count 53 rfl) rfl rfl ⟨_, rfl, h⟩
  · match i, ht, c with
    | 0, ht, c =>
      cases ht; replace h := h.2.1 (tb_eq c (by decide))
      refine e_aload_n (dx D_m_count 6 rfl) rfl ?_
      refine e_getI (dx D_m_count 7 rfl) fl_RX9_104 rfl rfl ?_
      exact e_iret (dx D_m_count 8 rfl) rfl rfl ⟨_, rfl, h⟩
    | 1, ht, c =>
      cases ht; replace h := h.2.2.1 (tb_eq c (by decide))
      refine e_aload_n (dx D_m_count 9 rfl) rfl ?_
      refine e_getI (dx D_m_count 10 rfl) fl_RX9_101 rfl rfl ?_
      exact e_iret (dx D_m_count 11 rfl) rfl rfl ⟨_, rfl, h⟩
    | 2, ht, c =>
      cases ht; replace h := h.2.2.2.1 (tb_eq c (by decide))
      refine e_aload_n (dx D_m_count 12 rfl) rfl ?_
      refine e_getI (dx D_m_count 13 rfl) fl_RX9_133 rfl rfl ?_
      exact e_iret (dx D_m_count 14 rfl) rfl rfl ⟨_, rfl, h⟩
    | 3, ht, c =>
      cases ht; replace h := h.2.2.2.2.1 (tb_eq c (by decide))
      refine e_aload_n (dx D_m_count 15 rfl) rfl ?_
      refine e_getI (dx D_m_count 16 rfl) fl_RX9_168 rfl rfl ?_
      exact e_iret (dx D_m_count 17 rfl) rfl rfl ⟨_, rfl, h⟩
    | 4, ht, c =>
      cases ht; replace h := h.2.2.2.2.2.1 (tb_eq c (by decide))
      refine e_aload_n (dx D_m_count 18 rfl) rfl ?_
      refine e_getI (dx D_m_count 19 rfl) fl_RX9_165 rfl rfl ?_
      refine e_callSi (rest := []) [.int (g1 34 15)] (dx D_m_count 20 rfl) ln_m_count_296 rfl rfl (Nat.le_of_ble_eq_true rfl) h (fun r3 g2 h => ?_)
      exact e_iret (dx D_m_count 21 rfl) rfl rfl ⟨_, rfl, h⟩
    | 5, ht, c =>
      cases ht; replace h := h.2.2.2.2.2.2.1 (tb_eq c (by decide))
      refine e_aload_n (dx D_m_count 22 rfl) rfl ?_
      refine e_getI (dx D_m_count 23 rfl) fl_RX9_281 rfl rfl ?_
      exact e_iret (dx D_m_count 24 rfl) rfl rfl ⟨_, rfl, h⟩
    | 6, ht, c =>
      cases ht; replace h := h.2.2.2.2.2.2.2.1 (tb_eq c (by decide))
      refine e_aload_n (dx D_m_count 25 rfl) rfl ?_
      refine e_getI (dx D_m_count 26 rfl) fl_RX9_287 rfl rfl ?_
      exact e_iret (dx D_m_count 27 rfl) rfl rfl ⟨_, rfl, h⟩
    | 7, ht, c =>
      cases ht; replace h := h.2.2.2.2.2.2.2.2.1 (tb_eq c (by decide))
      refine q_iconst (v := 0) (dx D_m_count 28 rfl) (by decide) ?_
      refine q_istore_n (L' := [some (.ref 34), some (.int x1), some (.int 0), some (.int 0)]) (dx D_m_count 29 rfl) (by decide) rfl ?_
      exact Wp.mask [true, false, true, true] h
    | 8, ht, c =>
      cases ht; replace h := h.2.2.2.2.2.2.2.2.2 (tb_eq c (by decide))
      refine e_aload_n (dx D_m_count 49 rfl) rfl ?_
      refine e_getI (dx D_m_count 50 rfl) fl_RX9_74 rfl rfl ?_
      exact e_iret (dx D_m_count 51 rfl) rfl rfl ⟨_, rfl, h⟩
    | n + 9, ht, c => simp at ht
set_option maxRecDepth 20000 in
theorem Vm_count_96 {x2 : Int32} {x3 : Int32} {g : Sg} {Q : Int32 → Sg → Prop} (h : (((g 34 8) ≤ x3 → Q x2 g) ∧ (¬ (g 34 8) ≤ x3 → vp_in ((4 * x3) + 2) 64 ∧ Hm_count_96 (x2 + (g 40 ((4 * x3) + 2).toNatClampNeg)) (x3 + 1) g Q))) : Hm_count_96 x2 x3 g Q := by
  refine e_iload_n (dx D_m_count 30 rfl) rfl ?_
  refine e_aload_n (dx D_m_count 31 rfl) rfl ?_
  refine e_getI (dx D_m_count 32 rfl) fl_RX9_104 rfl rfl ?_
  refine e_icmp_ge (tgt := 123) (dx D_m_count 33 rfl) (by decide) (fun c => ?_) (fun c => ?_)
  · replace h := h.1 c
    refine e_iload_n (dx D_m_count 47 rfl) rfl ?_
    exact e_iret (dx D_m_count 48 rfl) rfl rfl ⟨_, rfl, h⟩
  · replace h := h.2 c
    refine e_iload_n (dx D_m_count 34 rfl) rfl ?_
    refine e_aload_n (dx D_m_count 35 rfl) rfl ?_
    refine e_getR (dx D_m_count 36 rfl) fl_RX9_25 rfl rfl ?_
    refine q_iconst (v := 4) (dx D_m_count 37 rfl) (by decide) ?_
    refine e_iload_n (dx D_m_count 38 rfl) rfl ?_
    refine e_imul (dx D_m_count 39 rfl) ?_
    refine q_iconst (v := 2) (dx D_m_count 40 rfl) (by decide) ?_
    refine e_iadd (dx D_m_count 41 rfl) ?_
    obtain ⟨hb1, h⟩ := h
    refine e_iald (dx D_m_count 42 rfl) rfl hb1 ?_
    refine e_iadd (dx D_m_count 43 rfl) ?_
    refine q_istore_n (L' := [some (.ref 34), none, some (.int (x2 + (g 40 ((4 * x3) + 2).toNatClampNeg))), some (.int x3)]) (dx D_m_count 44 rfl) (by decide) rfl ?_
    refine q_iinc (d := 1) (L' := [some (.ref 34), none, some (.int (x2 + (g 40 ((4 * x3) + 2).toNatClampNeg))), some (.int (x3 + 1))]) (dx D_m_count 45 rfl) rfl (by decide) (by decide) rfl ?_
    refine e_goto (tgt := 96) (dx D_m_count 46 rfl) (by decide) ?_
    exact h
abbrev Cm_digest (g : Sg) (Q : Int64 → Sg → Prop) : Prop := Cj Mm_digest [.ref 34] g Q
abbrev Hm_digest_6 (x1 : Int64) (x3 : Int32) (g : Sg) (Q : Int64 → Sg → Prop) : Prop := Hj Mm_digest 6 [some (.ref 34), some (.long x1), none, some (.int x3), none] [] g Q
abbrev Hm_digest_57 (x1 : Int64) (x3 : Int32) (g : Sg) (Q : Int64 → Sg → Prop) : Prop := Hj Mm_digest 57 [some (.ref 34), some (.long x1), none, some (.int x3), none] [] g Q
abbrev Hm_digest_68 (x1 : Int64) (x3 : Int32) (x4 : Int32) (g : Sg) (Q : Int64 → Sg → Prop) : Prop := Hj Mm_digest 68 [some (.ref 34), some (.long x1), none, some (.int x3), some (.int x4)] [] g Q
abbrev Hm_digest_121 (x1 : Int64) (x3 : Int32) (g : Sg) (Q : Int64 → Sg → Prop) : Prop := Hj Mm_digest 121 [some (.ref 34), some (.long x1), none, some (.int x3), none] [] g Q
abbrev Hm_digest_250 (x1 : Int64) (x3 : Int32) (g : Sg) (Q : Int64 → Sg → Prop) : Prop := Hj Mm_digest 250 [some (.ref 34), some (.long x1), none, some (.int x3), none] [] g Q
abbrev Hm_digest_328 (x1 : Int64) (x3 : Int32) (g : Sg) (Q : Int64 → Sg → Prop) : Prop := Hj Mm_digest 328 [some (.ref 34), some (.long x1), none, some (.int x3), none] [] g Q
set_option maxRecDepth 20000 in
theorem Vm_digest {g : Sg} {Q : Int64 → Sg → Prop} (h : Hm_digest_6 17 0 g Q) : Cm_digest g Q := by
  refine Cl.of 4 pl_X9 rfl ?_
  refine e_ldc2 (v := 17) (dx D_m_digest 0 rfl) k1410 ?_
  refine q_lstore_n (L' := [some (.ref 34), some (.long 17), none, none, none]) (dx D_m_digest 1 rfl) (by decide) rfl ?_
  refine q_iconst (v := 0) (dx D_m_digest 2 rfl) (by decide) ?_
  refine q_istore_n (L' := [some (.ref 34), some (.long 17), none, some (.int 0), none]) (dx D_m_digest 3 rfl) (by decide) rfl ?_
  exact h
set_option maxRecDepth 20000 in
theorem Vm_digest_6 {x1 : Int64} {x3 : Int32} {g : Sg} {Q : Int64 → Sg → Prop} (h : ((8 ≤ x3 → Cm_reads g (fun r2 g1 => Cm_judged g1 (fun r4 g3 => Hm_digest_57 ((31 * ((31 * x1) + (Int32.toInt64 r2))) + (Int32.toInt64 r4)) 0 g3 Q))) ∧ (¬ 8 ≤ x3 → Cm_count x3 g (fun r6 g5 => Hm_digest_6 ((31 * x1) + (Int32.toInt64 r6)) (x3 + 1) g5 Q)))) : Hm_digest_6 x1 x3 g Q := by
  refine e_iload_n (dx D_m_digest 4 rfl) rfl ?_
  refine q_bipush (v := 8) (dx D_m_digest 5 rfl) (by decide) ?_
  refine e_icmp_ge (tgt := 31) (dx D_m_digest 6 rfl) (by decide) (fun c => ?_) (fun c => ?_)
  · replace h := h.1 c
    refine e_ldc2 (v := 31) (dx D_m_digest 18 rfl) k1411 ?_
    refine e_lload_n (dx D_m_digest 19 rfl) rfl ?_
    refine e_lmul (dx D_m_digest 20 rfl) ?_
    refine e_aload_n (dx D_m_digest 21 rfl) rfl ?_
    refine e_callVi (rest := [.long (31 * x1)]) [] (dx D_m_digest 22 rfl) ln_m_digest_118 rfl rfl rfl (Nat.le_of_ble_eq_true rfl) h (fun r2 g1 h => ?_)
    refine e_i2l (dx D_m_digest 23 rfl) ?_
    refine e_ladd (dx D_m_digest 24 rfl) ?_
    refine q_lstore_n (L' := [some (.ref 34), some (.long ((31 * x1) + (Int32.toInt64 r2))), none, some (.int x3), none]) (dx D_m_digest 25 rfl) (by decide) rfl ?_
    refine e_ldc2 (v := 31) (dx D_m_digest 26 rfl) k1411 ?_
    refine e_lload_n (dx D_m_digest 27 rfl) rfl ?_
    refine e_lmul (dx D_m_digest 28 rfl) ?_
    refine e_aload_n (dx D_m_digest 29 rfl) rfl ?_
    refine e_callVi (rest := [.long (31 * ((31 * x1) + (Int32.toInt64 r2)))]) [] (dx D_m_digest 30 rfl) ln_m_digest_306 rfl rfl rfl (Nat.le_of_ble_eq_true rfl) h (fun r4 g3 h => ?_)
    refine e_i2l (dx D_m_digest 31 rfl) ?_
    refine e_ladd (dx D_m_digest 32 rfl) ?_
    refine q_lstore_n (L' := [some (.ref 34), some (.long ((31 * ((31 * x1) + (Int32.toInt64 r2))) + (Int32.toInt64 r4))), none, some (.int x3), none]) (dx D_m_digest 33 rfl) (by decide) rfl ?_
    refine q_iconst (v := 0) (dx D_m_digest 34 rfl) (by decide) ?_
    refine q_istore_n (L' := [some (.ref 34), some (.long ((31 * ((31 * x1) + (Int32.toInt64 r2))) + (Int32.toInt64 r4))), none, some (.int 0), none]) (dx D_m_digest 35 rfl) (by decide) rfl ?_
    exact h
  · replace h := h.2 c
    refine e_ldc2 (v := 31) (dx D_m_digest 7 rfl) k1411 ?_
    refine e_lload_n (dx D_m_digest 8 rfl) rfl ?_
    refine e_lmul (dx D_m_digest 9 rfl) ?_
    refine e_aload_n (dx D_m_digest 10 rfl) rfl ?_
    refine e_iload_n (dx D_m_digest 11 rfl) rfl ?_
    refine e_callVi (rest := [.long (31 * x1)]) [.int x3] (dx D_m_digest 12 rfl) ln_m_digest_303 rfl rfl rfl (Nat.le_of_ble_eq_true rfl) h (fun r6 g5 h => ?_)
    refine e_i2l (dx D_m_digest 13 rfl) ?_
    refine e_ladd (dx D_m_digest 14 rfl) ?_
    refine q_lstore_n (L' := [some (.ref 34), some (.long ((31 * x1) + (Int32.toInt64 r6))), none, some (.int x3), none]) (dx D_m_digest 15 rfl) (by decide) rfl ?_
    refine q_iinc (d := 1) (L' := [some (.ref 34), some (.long ((31 * x1) + (Int32.toInt64 r6))), none, some (.int (x3 + 1)), none]) (dx D_m_digest 16 rfl) rfl (by decide) (by decide) rfl ?_
    refine e_goto (tgt := 6) (dx D_m_digest 17 rfl) (by decide) ?_
    exact h
set_option maxRecDepth 20000 in
theorem Vm_digest_57 {x1 : Int64} {x3 : Int32} {g : Sg} {Q : Int64 → Sg → Prop} (h : (((g 34 8) ≤ x3 → Hm_digest_121 x1 0 g Q) ∧ (¬ (g 34 8) ≤ x3 → Hm_digest_68 x1 x3 0 g Q))) : Hm_digest_57 x1 x3 g Q := by
  refine e_iload_n (dx D_m_digest 36 rfl) rfl ?_
  refine e_aload_n (dx D_m_digest 37 rfl) rfl ?_
  refine e_getI (dx D_m_digest 38 rfl) fl_RX9_104 rfl rfl ?_
  refine e_icmp_ge (tgt := 119) (dx D_m_digest 39 rfl) (by decide) (fun c => ?_) (fun c => ?_)
  · replace h := h.1 c
    refine q_iconst (v := 0) (dx D_m_digest 73 rfl) (by decide) ?_
    refine q_istore_n (L' := [some (.ref 34), some (.long x1), none, some (.int 0), none]) (dx D_m_digest 74 rfl) (by decide) rfl ?_
    exact h
  · replace h := h.2 c
    refine q_iconst (v := 0) (dx D_m_digest 40 rfl) (by decide) ?_
    refine q_istore (L' := [some (.ref 34), some (.long x1), none, some (.int x3), some (.int 0)]) (dx D_m_digest 41 rfl) (by decide) rfl ?_
    exact h
set_option maxRecDepth 20000 in
theorem Vm_digest_68 {x1 : Int64} {x3 : Int32} {x4 : Int32} {g : Sg} {Q : Int64 → Sg → Prop} (h : ((4 ≤ x4 → vp_in x3 16 ∧ Hm_digest_57 ((31 * x1) + (Int32.toInt64 (g 44 (x3).toNatClampNeg))) (x3 + 1) g Q) ∧ (¬ 4 ≤ x4 → vp_in ((4 * x3) + x4) 64 ∧ Hm_digest_68 ((31 * x1) + (Int32.toInt64 (g 40 ((4 * x3) + x4).toNatClampNeg))) x3 (x4 + 1) g Q))) : Hm_digest_68 x1 x3 x4 g Q := by
  refine e_iload (dx D_m_digest 42 rfl) rfl ?_
  refine q_iconst (v := 4) (dx D_m_digest 43 rfl) (by decide) ?_
  refine e_icmp_ge (tgt := 99) (dx D_m_digest 44 rfl) (by decide) (fun c => ?_) (fun c => ?_)
  · replace h := h.1 c
    refine e_ldc2 (v := 31) (dx D_m_digest 61 rfl) k1411 ?_
    refine e_lload_n (dx D_m_digest 62 rfl) rfl ?_
    refine e_lmul (dx D_m_digest 63 rfl) ?_
    refine e_aload_n (dx D_m_digest 64 rfl) rfl ?_
    refine e_getR (dx D_m_digest 65 rfl) fl_RX9_37 rfl rfl ?_
    refine e_iload_n (dx D_m_digest 66 rfl) rfl ?_
    obtain ⟨hb1, h⟩ := h
    refine e_iald (dx D_m_digest 67 rfl) rfl hb1 ?_
    refine e_i2l (dx D_m_digest 68 rfl) ?_
    refine e_ladd (dx D_m_digest 69 rfl) ?_
    refine q_lstore_n (L' := [some (.ref 34), some (.long ((31 * x1) + (Int32.toInt64 (g 44 (x3).toNatClampNeg)))), none, some (.int x3), some (.int x4)]) (dx D_m_digest 70 rfl) (by decide) rfl ?_
    refine q_iinc (d := 1) (L' := [some (.ref 34), some (.long ((31 * x1) + (Int32.toInt64 (g 44 (x3).toNatClampNeg)))), none, some (.int (x3 + 1)), some (.int x4)]) (dx D_m_digest 71 rfl) rfl (by decide) (by decide) rfl ?_
    refine e_goto (tgt := 57) (dx D_m_digest 72 rfl) (by decide) ?_
    exact Wp.mask [true, true, false, true, false] h
  · replace h := h.2 c
    refine e_ldc2 (v := 31) (dx D_m_digest 45 rfl) k1411 ?_
    refine e_lload_n (dx D_m_digest 46 rfl) rfl ?_
    refine e_lmul (dx D_m_digest 47 rfl) ?_
    refine e_aload_n (dx D_m_digest 48 rfl) rfl ?_
    refine e_getR (dx D_m_digest 49 rfl) fl_RX9_25 rfl rfl ?_
    refine q_iconst (v := 4) (dx D_m_digest 50 rfl) (by decide) ?_
    refine e_iload_n (dx D_m_digest 51 rfl) rfl ?_
    refine e_imul (dx D_m_digest 52 rfl) ?_
    refine e_iload (dx D_m_digest 53 rfl) rfl ?_
    refine e_iadd (dx D_m_digest 54 rfl) ?_
    obtain ⟨hb2, h⟩ := h
    refine e_iald (dx D_m_digest 55 rfl) rfl hb2 ?_
    refine e_i2l (dx D_m_digest 56 rfl) ?_
    refine e_ladd (dx D_m_digest 57 rfl) ?_
    refine q_lstore_n (L' := [some (.ref 34), some (.long ((31 * x1) + (Int32.toInt64 (g 40 ((4 * x3) + x4).toNatClampNeg)))), none, some (.int x3), some (.int x4)]) (dx D_m_digest 58 rfl) (by decide) rfl ?_
    refine q_iinc (d := 1) (L' := [some (.ref 34), some (.long ((31 * x1) + (Int32.toInt64 (g 40 ((4 * x3) + x4).toNatClampNeg)))), none, some (.int x3), some (.int (x4 + 1))]) (dx D_m_digest 59 rfl) rfl (by decide) (by decide) rfl ?_
    refine e_goto (tgt := 68) (dx D_m_digest 60 rfl) (by decide) ?_
    exact h
set_option maxRecDepth 20000 in
theorem Vm_digest_121 {x1 : Int64} {x3 : Int32} {g : Sg} {Q : Int64 → Sg → Prop} (h : ((16 ≤ x3 → Cm_fullNow g (fun r2 g1 => Cm_soonestNow g1 (fun r4 g3 => Cm_leftOn 9 g3 (fun r6 g5 => Cm_burnsNow 0 g5 (fun r8 g7 => Cm_burnsNow 5 g7 (fun r10 g9 => Hm_digest_250 ((31 * ((31 * ((31 * ((31 * ((31 * ((31 * x1) + (Int32.toInt64 (g 34 15)))) + (Int32.toInt64 r2))) + (Int32.toInt64 r4))) + (Int32.toInt64 r6))) + (Int32.toInt64 r8))) + (Int32.toInt64 r10)) 1 g9 Q)))))) ∧ (¬ 16 ≤ x3 → vp_in x3 16 ∧ Cm_outOf x3 g (fun r13 g12 => Cm_failsOf x3 g12 (fun r15 g14 => Hm_digest_121 ((31 * ((31 * ((31 * x1) + (Int32.toInt64 (if tbb (g 34 15) x3 = true then g 43 (x3).toNatClampNeg else 0)))) + (Int32.toInt64 r13))) + (Int32.toInt64 r15)) (x3 + 1) g14 Q))))) : Hm_digest_121 x1 x3 g Q := by
  refine e_iload_n (dx D_m_digest 75 rfl) rfl ?_
  refine q_bipush (v := 16) (dx D_m_digest 76 rfl) (by decide) ?_
  refine e_icmp_ge (tgt := 172) (dx D_m_digest 77 rfl) (by decide) (fun c => ?_) (fun c => ?_)
  · replace h := h.1 c
    refine e_ldc2 (v := 31) (dx D_m_digest 107 rfl) k1411 ?_
    refine e_lload_n (dx D_m_digest 108 rfl) rfl ?_
    refine e_lmul (dx D_m_digest 109 rfl) ?_
    refine e_aload_n (dx D_m_digest 110 rfl) rfl ?_
    refine e_getI (dx D_m_digest 111 rfl) fl_RX9_165 rfl rfl ?_
    refine e_i2l (dx D_m_digest 112 rfl) ?_
    refine e_ladd (dx D_m_digest 113 rfl) ?_
    refine q_lstore_n (L' := [some (.ref 34), some (.long ((31 * x1) + (Int32.toInt64 (g 34 15)))), none, some (.int x3), none]) (dx D_m_digest 114 rfl) (by decide) rfl ?_
    refine e_ldc2 (v := 31) (dx D_m_digest 115 rfl) k1411 ?_
    refine e_lload_n (dx D_m_digest 116 rfl) rfl ?_
    refine e_lmul (dx D_m_digest 117 rfl) ?_
    refine e_aload_n (dx D_m_digest 118 rfl) rfl ?_
    refine e_callVi (rest := [.long (31 * ((31 * x1) + (Int32.toInt64 (g 34 15))))]) [] (dx D_m_digest 119 rfl) ln_m_digest_189 rfl rfl rfl (Nat.le_of_ble_eq_true rfl) h (fun r2 g1 h => ?_)
    refine e_i2l (dx D_m_digest 120 rfl) ?_
    refine e_ladd (dx D_m_digest 121 rfl) ?_
    refine q_lstore_n (L' := [some (.ref 34), some (.long ((31 * ((31 * x1) + (Int32.toInt64 (g 34 15)))) + (Int32.toInt64 r2))), none, some (.int x3), none]) (dx D_m_digest 122 rfl) (by decide) rfl ?_
    refine e_ldc2 (v := 31) (dx D_m_digest 123 rfl) k1411 ?_
    refine e_lload_n (dx D_m_digest 124 rfl) rfl ?_
    refine e_lmul (dx D_m_digest 125 rfl) ?_
    refine e_aload_n (dx D_m_digest 126 rfl) rfl ?_
    refine e_callVi (rest := [.long (31 * ((31 * ((31 * x1) + (Int32.toInt64 (g 34 15)))) + (Int32.toInt64 r2)))]) [] (dx D_m_digest 127 rfl) ln_m_digest_225 rfl rfl rfl (Nat.le_of_ble_eq_true rfl) h (fun r4 g3 h => ?_)
    refine e_i2l (dx D_m_digest 128 rfl) ?_
    refine e_ladd (dx D_m_digest 129 rfl) ?_
    refine q_lstore_n (L' := [some (.ref 34), some (.long ((31 * ((31 * ((31 * x1) + (Int32.toInt64 (g 34 15)))) + (Int32.toInt64 r2))) + (Int32.toInt64 r4))), none, some (.int x3), none]) (dx D_m_digest 130 rfl) (by decide) rfl ?_
    refine e_ldc2 (v := 31) (dx D_m_digest 131 rfl) k1411 ?_
    refine e_lload_n (dx D_m_digest 132 rfl) rfl ?_
    refine e_lmul (dx D_m_digest 133 rfl) ?_
    refine e_aload_n (dx D_m_digest 134 rfl) rfl ?_
    refine q_bipush (v := 9) (dx D_m_digest 135 rfl) (by decide) ?_
    refine e_callVi (rest := [.long (31 * ((31 * ((31 * ((31 * x1) + (Int32.toInt64 (g 34 15)))) + (Int32.toInt64 r2))) + (Int32.toInt64 r4)))]) [.int 9] (dx D_m_digest 136 rfl) ln_m_digest_228 rfl rfl rfl (Nat.le_of_ble_eq_true rfl) h (fun r6 g5 h => ?_)
    refine e_i2l (dx D_m_digest 137 rfl) ?_
    refine e_ladd (dx D_m_digest 138 rfl) ?_
    refine q_lstore_n (L' := [some (.ref 34), some (.long ((31 * ((31 * ((31 * ((31 * x1) + (Int32.toInt64 (g 34 15)))) + (Int32.toInt64 r2))) + (Int32.toInt64 r4))) + (Int32.toInt64 r6))), none, some (.int x3), none]) (dx D_m_digest 139 rfl) (by decide) rfl ?_
    refine e_ldc2 (v := 31) (dx D_m_digest 140 rfl) k1411 ?_
    refine e_lload_n (dx D_m_digest 141 rfl) rfl ?_
    refine e_lmul (dx D_m_digest 142 rfl) ?_
    refine e_aload_n (dx D_m_digest 143 rfl) rfl ?_
    refine q_iconst (v := 0) (dx D_m_digest 144 rfl) (by decide) ?_
    refine e_callVi (rest := [.long (31 * ((31 * ((31 * ((31 * ((31 * x1) + (Int32.toInt64 (g 34 15)))) + (Int32.toInt64 r2))) + (Int32.toInt64 r4))) + (Int32.toInt64 r6)))]) [.int 0] (dx D_m_digest 145 rfl) ln_m_digest_238 rfl rfl rfl (Nat.le_of_ble_eq_true rfl) h (fun r8 g7 h => ?_)
    refine e_i2l (dx D_m_digest 146 rfl) ?_
    refine e_ladd (dx D_m_digest 147 rfl) ?_
    refine q_lstore_n (L' := [some (.ref 34), some (.long ((31 * ((31 * ((31 * ((31 * ((31 * x1) + (Int32.toInt64 (g 34 15)))) + (Int32.toInt64 r2))) + (Int32.toInt64 r4))) + (Int32.toInt64 r6))) + (Int32.toInt64 r8))), none, some (.int x3), none]) (dx D_m_digest 148 rfl) (by decide) rfl ?_
    refine e_ldc2 (v := 31) (dx D_m_digest 149 rfl) k1411 ?_
    refine e_lload_n (dx D_m_digest 150 rfl) rfl ?_
    refine e_lmul (dx D_m_digest 151 rfl) ?_
    refine e_aload_n (dx D_m_digest 152 rfl) rfl ?_
    refine q_iconst (v := 5) (dx D_m_digest 153 rfl) (by decide) ?_
    refine e_callVi (rest := [.long (31 * ((31 * ((31 * ((31 * ((31 * ((31 * x1) + (Int32.toInt64 (g 34 15)))) + (Int32.toInt64 r2))) + (Int32.toInt64 r4))) + (Int32.toInt64 r6))) + (Int32.toInt64 r8)))]) [.int 5] (dx D_m_digest 154 rfl) ln_m_digest_238 rfl rfl rfl (Nat.le_of_ble_eq_true rfl) h (fun r10 g9 h => ?_)
    refine e_i2l (dx D_m_digest 155 rfl) ?_
    refine e_ladd (dx D_m_digest 156 rfl) ?_
    refine q_lstore_n (L' := [some (.ref 34), some (.long ((31 * ((31 * ((31 * ((31 * ((31 * ((31 * x1) + (Int32.toInt64 (g 34 15)))) + (Int32.toInt64 r2))) + (Int32.toInt64 r4))) + (Int32.toInt64 r6))) + (Int32.toInt64 r8))) + (Int32.toInt64 r10))), none, some (.int x3), none]) (dx D_m_digest 157 rfl) (by decide) rfl ?_
    refine q_iconst (v := 1) (dx D_m_digest 158 rfl) (by decide) ?_
    refine q_istore_n (L' := [some (.ref 34), some (.long ((31 * ((31 * ((31 * ((31 * ((31 * ((31 * x1) + (Int32.toInt64 (g 34 15)))) + (Int32.toInt64 r2))) + (Int32.toInt64 r4))) + (Int32.toInt64 r6))) + (Int32.toInt64 r8))) + (Int32.toInt64 r10))), none, some (.int 1), none]) (dx D_m_digest 159 rfl) (by decide) rfl ?_
    exact h
  · replace h := h.2 c
    refine e_ldc2 (v := 31) (dx D_m_digest 78 rfl) k1411 ?_
    refine e_lload_n (dx D_m_digest 79 rfl) rfl ?_
    refine e_lmul (dx D_m_digest 80 rfl) ?_
    refine e_aload_n (dx D_m_digest 81 rfl) rfl ?_
    refine e_iload_n (dx D_m_digest 82 rfl) rfl ?_
    obtain ⟨hb11, h⟩ := h
    refine e_callVi (Q1 := fun r g' => (if tbb (g 34 15) x3 = true then g 43 (x3).toNatClampNeg else 0) = r ∧ g = g') (rest := [.long (31 * x1)]) [.int x3] (dx D_m_digest 83 rfl) ln_m_digest_198 rfl rfl rfl (Nat.le_of_ble_eq_true rfl) (Im_pipesOf hb11 ⟨rfl, rfl⟩) (fun r g' hh => ?_)
    obtain ⟨rfl, rfl⟩ := hh
    refine e_i2l (dx D_m_digest 84 rfl) ?_
    refine e_ladd (dx D_m_digest 85 rfl) ?_
    refine q_lstore_n (L' := [some (.ref 34), some (.long ((31 * x1) + (Int32.toInt64 (if tbb (g 34 15) x3 = true then g 43 (x3).toNatClampNeg else 0)))), none, some (.int x3), none]) (dx D_m_digest 86 rfl) (by decide) rfl ?_
    refine e_ldc2 (v := 31) (dx D_m_digest 87 rfl) k1411 ?_
    refine e_lload_n (dx D_m_digest 88 rfl) rfl ?_
    refine e_lmul (dx D_m_digest 89 rfl) ?_
    refine e_aload_n (dx D_m_digest 90 rfl) rfl ?_
    refine e_iload_n (dx D_m_digest 91 rfl) rfl ?_
    refine e_callVi (rest := [.long (31 * ((31 * x1) + (Int32.toInt64 (if tbb (g 34 15) x3 = true then g 43 (x3).toNatClampNeg else 0))))]) [.int x3] (dx D_m_digest 92 rfl) ln_m_digest_201 rfl rfl rfl (Nat.le_of_ble_eq_true rfl) h (fun r13 g12 h => ?_)
    refine e_i2l (dx D_m_digest 93 rfl) ?_
    refine e_ladd (dx D_m_digest 94 rfl) ?_
    refine q_lstore_n (L' := [some (.ref 34), some (.long ((31 * ((31 * x1) + (Int32.toInt64 (if tbb (g 34 15) x3 = true then g 43 (x3).toNatClampNeg else 0)))) + (Int32.toInt64 r13))), none, some (.int x3), none]) (dx D_m_digest 95 rfl) (by decide) rfl ?_
    refine e_ldc2 (v := 31) (dx D_m_digest 96 rfl) k1411 ?_
    refine e_lload_n (dx D_m_digest 97 rfl) rfl ?_
    refine e_lmul (dx D_m_digest 98 rfl) ?_
    refine e_aload_n (dx D_m_digest 99 rfl) rfl ?_
    refine e_iload_n (dx D_m_digest 100 rfl) rfl ?_
    refine e_callVi (rest := [.long (31 * ((31 * ((31 * x1) + (Int32.toInt64 (if tbb (g 34 15) x3 = true then g 43 (x3).toNatClampNeg else 0)))) + (Int32.toInt64 r13)))]) [.int x3] (dx D_m_digest 101 rfl) ln_m_digest_222 rfl rfl rfl (Nat.le_of_ble_eq_true rfl) h (fun r15 g14 h => ?_)
    refine e_i2l (dx D_m_digest 102 rfl) ?_
    refine e_ladd (dx D_m_digest 103 rfl) ?_
    refine q_lstore_n (L' := [some (.ref 34), some (.long ((31 * ((31 * ((31 * x1) + (Int32.toInt64 (if tbb (g 34 15) x3 = true then g 43 (x3).toNatClampNeg else 0)))) + (Int32.toInt64 r13))) + (Int32.toInt64 r15))), none, some (.int x3), none]) (dx D_m_digest 104 rfl) (by decide) rfl ?_
    refine q_iinc (d := 1) (L' := [some (.ref 34), some (.long ((31 * ((31 * ((31 * x1) + (Int32.toInt64 (if tbb (g 34 15) x3 = true then g 43 (x3).toNatClampNeg else 0)))) + (Int32.toInt64 r13))) + (Int32.toInt64 r15))), none, some (.int (x3 + 1)), none]) (dx D_m_digest 105 rfl) rfl (by decide) (by decide) rfl ?_
    refine e_goto (tgt := 121) (dx D_m_digest 106 rfl) (by decide) ?_
    exact h
set_option maxRecDepth 20000 in
theorem Vm_digest_250 {x1 : Int64} {x3 : Int32} {g : Sg} {Q : Int64 → Sg → Prop} (h : ((8 ≤ x3 → Cm_findLit 14 g (fun g1 => Hm_digest_328 x1 0 g1 Q)) ∧ (¬ 8 ≤ x3 → Cm_shortestOf 0 x3 (-1) g (fun r3 g2 => Cm_drawnOf 0 x3 g2 (fun r5 g4 => Cm_mostOf 0 x3 g4 (fun r7 g6 => Cm_heardOf 0 3 x3 g6 (fun r9 g8 => Hm_digest_250 ((31 * ((31 * ((31 * ((31 * x1) + (Int32.toInt64 r3))) + (Int32.toInt64 r5))) + (Int32.toInt64 r7))) + (Int32.toInt64 r9)) (x3 + 1) g8 Q))))))) : Hm_digest_250 x1 x3 g Q := by
  refine e_iload_n (dx D_m_digest 160 rfl) rfl ?_
  refine q_bipush (v := 8) (dx D_m_digest 161 rfl) (by decide) ?_
  refine e_icmp_ge (tgt := 320) (dx D_m_digest 162 rfl) (by decide) (fun c => ?_) (fun c => ?_)
  · replace h := h.1 c
    refine e_aload_n (dx D_m_digest 207 rfl) rfl ?_
    refine q_bipush (v := 14) (dx D_m_digest 208 rfl) (by decide) ?_
    refine e_callVv (rest := []) [.int 14] (dx D_m_digest 209 rfl) ln_m_digest_245 rfl rfl rfl (Nat.le_of_ble_eq_true rfl) h (fun g1 h => ?_)
    refine q_iconst (v := 0) (dx D_m_digest 210 rfl) (by decide) ?_
    refine q_istore_n (L' := [some (.ref 34), some (.long x1), none, some (.int 0), none]) (dx D_m_digest 211 rfl) (by decide) rfl ?_
    exact h
  · replace h := h.2 c
    refine e_ldc2 (v := 31) (dx D_m_digest 163 rfl) k1411 ?_
    refine e_lload_n (dx D_m_digest 164 rfl) rfl ?_
    refine e_lmul (dx D_m_digest 165 rfl) ?_
    refine e_aload_n (dx D_m_digest 166 rfl) rfl ?_
    refine q_iconst (v := 0) (dx D_m_digest 167 rfl) (by decide) ?_
    refine e_iload_n (dx D_m_digest 168 rfl) rfl ?_
    refine q_iconst (v := (-1)) (dx D_m_digest 169 rfl) (by decide) ?_
    refine e_callVi (rest := [.long (31 * x1)]) [.int 0, .int x3, .int (-1)] (dx D_m_digest 170 rfl) ln_m_digest_204 rfl rfl rfl (Nat.le_of_ble_eq_true rfl) h (fun r3 g2 h => ?_)
    refine e_i2l (dx D_m_digest 171 rfl) ?_
    refine e_ladd (dx D_m_digest 172 rfl) ?_
    refine q_lstore_n (L' := [some (.ref 34), some (.long ((31 * x1) + (Int32.toInt64 r3))), none, some (.int x3), none]) (dx D_m_digest 173 rfl) (by decide) rfl ?_
    refine e_ldc2 (v := 31) (dx D_m_digest 174 rfl) k1411 ?_
    refine e_lload_n (dx D_m_digest 175 rfl) rfl ?_
    refine e_lmul (dx D_m_digest 176 rfl) ?_
    refine e_aload_n (dx D_m_digest 177 rfl) rfl ?_
    refine q_iconst (v := 0) (dx D_m_digest 178 rfl) (by decide) ?_
    refine e_iload_n (dx D_m_digest 179 rfl) rfl ?_
    refine e_callVi (rest := [.long (31 * ((31 * x1) + (Int32.toInt64 r3)))]) [.int 0, .int x3] (dx D_m_digest 180 rfl) ln_m_digest_216 rfl rfl rfl (Nat.le_of_ble_eq_true rfl) h (fun r5 g4 h => ?_)
    refine e_i2l (dx D_m_digest 181 rfl) ?_
    refine e_ladd (dx D_m_digest 182 rfl) ?_
    refine q_lstore_n (L' := [some (.ref 34), some (.long ((31 * ((31 * x1) + (Int32.toInt64 r3))) + (Int32.toInt64 r5))), none, some (.int x3), none]) (dx D_m_digest 183 rfl) (by decide) rfl ?_
    refine e_ldc2 (v := 31) (dx D_m_digest 184 rfl) k1411 ?_
    refine e_lload_n (dx D_m_digest 185 rfl) rfl ?_
    refine e_lmul (dx D_m_digest 186 rfl) ?_
    refine e_aload_n (dx D_m_digest 187 rfl) rfl ?_
    refine q_iconst (v := 0) (dx D_m_digest 188 rfl) (by decide) ?_
    refine e_iload_n (dx D_m_digest 189 rfl) rfl ?_
    refine e_callVi (rest := [.long (31 * ((31 * ((31 * x1) + (Int32.toInt64 r3))) + (Int32.toInt64 r5)))]) [.int 0, .int x3] (dx D_m_digest 190 rfl) ln_m_digest_219 rfl rfl rfl (Nat.le_of_ble_eq_true rfl) h (fun r7 g6 h => ?_)
    refine e_i2l (dx D_m_digest 191 rfl) ?_
    refine e_ladd (dx D_m_digest 192 rfl) ?_
    refine q_lstore_n (L' := [some (.ref 34), some (.long ((31 * ((31 * ((31 * x1) + (Int32.toInt64 r3))) + (Int32.toInt64 r5))) + (Int32.toInt64 r7))), none, some (.int x3), none]) (dx D_m_digest 193 rfl) (by decide) rfl ?_
    refine e_ldc2 (v := 31) (dx D_m_digest 194 rfl) k1411 ?_
    refine e_lload_n (dx D_m_digest 195 rfl) rfl ?_
    refine e_lmul (dx D_m_digest 196 rfl) ?_
    refine e_aload_n (dx D_m_digest 197 rfl) rfl ?_
    refine q_iconst (v := 0) (dx D_m_digest 198 rfl) (by decide) ?_
    refine q_iconst (v := 3) (dx D_m_digest 199 rfl) (by decide) ?_
    refine e_iload_n (dx D_m_digest 200 rfl) rfl ?_
    refine e_callVi (rest := [.long (31 * ((31 * ((31 * ((31 * x1) + (Int32.toInt64 r3))) + (Int32.toInt64 r5))) + (Int32.toInt64 r7)))]) [.int 0, .int 3, .int x3] (dx D_m_digest 201 rfl) ln_m_digest_268 rfl rfl rfl (Nat.le_of_ble_eq_true rfl) h (fun r9 g8 h => ?_)
    refine e_i2l (dx D_m_digest 202 rfl) ?_
    refine e_ladd (dx D_m_digest 203 rfl) ?_
    refine q_lstore_n (L' := [some (.ref 34), some (.long ((31 * ((31 * ((31 * ((31 * x1) + (Int32.toInt64 r3))) + (Int32.toInt64 r5))) + (Int32.toInt64 r7))) + (Int32.toInt64 r9))), none, some (.int x3), none]) (dx D_m_digest 204 rfl) (by decide) rfl ?_
    refine q_iinc (d := 1) (L' := [some (.ref 34), some (.long ((31 * ((31 * ((31 * ((31 * x1) + (Int32.toInt64 r3))) + (Int32.toInt64 r5))) + (Int32.toInt64 r7))) + (Int32.toInt64 r9))), none, some (.int (x3 + 1)), none]) (dx D_m_digest 205 rfl) rfl (by decide) (by decide) rfl ?_
    refine e_goto (tgt := 250) (dx D_m_digest 206 rfl) (by decide) ?_
    exact h
set_option maxRecDepth 20000 in
theorem Vm_digest_328 {x1 : Int64} {x3 : Int32} {g : Sg} {Q : Int64 → Sg → Prop} (h : ((3 ≤ x3 → Cm_heardOf 0 4 (-1) g (fun r2 g1 => Cm_drowsyOf 7 0 9 g1 (fun r4 g3 => Cm_liesNow g3 (fun r6 g5 => Cm_scenesOf (g5 34 11) g5 (fun r8 g7 => Cm_cue 0 g7 (fun r10 g9 => Q ((31 * ((31 * ((31 * ((31 * ((31 * x1) + (Int32.toInt64 r2))) + (Int32.toInt64 r4))) + (Int32.toInt64 r6))) + (Int32.toInt64 r8))) + (Int32.toInt64 r10)) g9)))))) ∧ (¬ 3 ≤ x3 → vp_in x3 3 ∧ Hm_digest_328 ((31 * x1) + (Int32.toInt64 (g 50 (x3).toNatClampNeg))) (x3 + 1) g Q))) : Hm_digest_328 x1 x3 g Q := by
  refine e_iload_n (dx D_m_digest 212 rfl) rfl ?_
  refine q_iconst (v := 3) (dx D_m_digest 213 rfl) (by decide) ?_
  refine e_icmp_ge (tgt := 353) (dx D_m_digest 214 rfl) (by decide) (fun c => ?_) (fun c => ?_)
  · replace h := h.1 c
    refine e_ldc2 (v := 31) (dx D_m_digest 227 rfl) k1411 ?_
    refine e_lload_n (dx D_m_digest 228 rfl) rfl ?_
    refine e_lmul (dx D_m_digest 229 rfl) ?_
    refine e_aload_n (dx D_m_digest 230 rfl) rfl ?_
    refine q_iconst (v := 0) (dx D_m_digest 231 rfl) (by decide) ?_
    refine q_iconst (v := 4) (dx D_m_digest 232 rfl) (by decide) ?_
    refine q_iconst (v := (-1)) (dx D_m_digest 233 rfl) (by decide) ?_
    refine e_callVi (rest := [.long (31 * x1)]) [.int 0, .int 4, .int (-1)] (dx D_m_digest 234 rfl) ln_m_digest_268 rfl rfl rfl (Nat.le_of_ble_eq_true rfl) h (fun r2 g1 h => ?_)
    refine e_i2l (dx D_m_digest 235 rfl) ?_
    refine e_ladd (dx D_m_digest 236 rfl) ?_
    refine q_lstore_n (L' := [some (.ref 34), some (.long ((31 * x1) + (Int32.toInt64 r2))), none, some (.int x3), none]) (dx D_m_digest 237 rfl) (by decide) rfl ?_
    refine e_ldc2 (v := 31) (dx D_m_digest 238 rfl) k1411 ?_
    refine e_lload_n (dx D_m_digest 239 rfl) rfl ?_
    refine e_lmul (dx D_m_digest 240 rfl) ?_
    refine e_aload_n (dx D_m_digest 241 rfl) rfl ?_
    refine q_bipush (v := 7) (dx D_m_digest 242 rfl) (by decide) ?_
    refine q_iconst (v := 0) (dx D_m_digest 243 rfl) (by decide) ?_
    refine q_bipush (v := 9) (dx D_m_digest 244 rfl) (by decide) ?_
    refine e_callVi (rest := [.long (31 * ((31 * x1) + (Int32.toInt64 r2)))]) [.int 7, .int 0, .int 9] (dx D_m_digest 245 rfl) ln_m_digest_278 rfl rfl rfl (Nat.le_of_ble_eq_true rfl) h (fun r4 g3 h => ?_)
    refine e_i2l (dx D_m_digest 246 rfl) ?_
    refine e_ladd (dx D_m_digest 247 rfl) ?_
    refine q_lstore_n (L' := [some (.ref 34), some (.long ((31 * ((31 * x1) + (Int32.toInt64 r2))) + (Int32.toInt64 r4))), none, some (.int x3), none]) (dx D_m_digest 248 rfl) (by decide) rfl ?_
    refine e_ldc2 (v := 31) (dx D_m_digest 249 rfl) k1411 ?_
    refine e_lload_n (dx D_m_digest 250 rfl) rfl ?_
    refine e_lmul (dx D_m_digest 251 rfl) ?_
    refine e_aload_n (dx D_m_digest 252 rfl) rfl ?_
    refine e_callVi (rest := [.long (31 * ((31 * ((31 * x1) + (Int32.toInt64 r2))) + (Int32.toInt64 r4)))]) [] (dx D_m_digest 253 rfl) ln_m_digest_284 rfl rfl rfl (Nat.le_of_ble_eq_true rfl) h (fun r6 g5 h => ?_)
    refine e_i2l (dx D_m_digest 254 rfl) ?_
    refine e_ladd (dx D_m_digest 255 rfl) ?_
    refine q_lstore_n (L' := [some (.ref 34), some (.long ((31 * ((31 * ((31 * x1) + (Int32.toInt64 r2))) + (Int32.toInt64 r4))) + (Int32.toInt64 r6))), none, some (.int x3), none]) (dx D_m_digest 256 rfl) (by decide) rfl ?_
    refine e_ldc2 (v := 31) (dx D_m_digest 257 rfl) k1411 ?_
    refine e_lload_n (dx D_m_digest 258 rfl) rfl ?_
    refine e_lmul (dx D_m_digest 259 rfl) ?_
    refine e_aload_n (dx D_m_digest 260 rfl) rfl ?_
    refine e_aload_n (dx D_m_digest 261 rfl) rfl ?_
    refine e_getI (dx D_m_digest 262 rfl) fl_RX9_133 rfl rfl ?_
    refine e_callVi (rest := [.long (31 * ((31 * ((31 * ((31 * x1) + (Int32.toInt64 r2))) + (Int32.toInt64 r4))) + (Int32.toInt64 r6)))]) [.int (g5 34 11)] (dx D_m_digest 263 rfl) ln_m_digest_290 rfl rfl rfl (Nat.le_of_ble_eq_true rfl) h (fun r8 g7 h => ?_)
    refine e_i2l (dx D_m_digest 264 rfl) ?_
    refine e_ladd (dx D_m_digest 265 rfl) ?_
    refine q_lstore_n (L' := [some (.ref 34), some (.long ((31 * ((31 * ((31 * ((31 * x1) + (Int32.toInt64 r2))) + (Int32.toInt64 r4))) + (Int32.toInt64 r6))) + (Int32.toInt64 r8))), none, some (.int x3), none]) (dx D_m_digest 266 rfl) (by decide) rfl ?_
    refine e_ldc2 (v := 31) (dx D_m_digest 267 rfl) k1411 ?_
    refine e_lload_n (dx D_m_digest 268 rfl) rfl ?_
    refine e_lmul (dx D_m_digest 269 rfl) ?_
    refine e_aload_n (dx D_m_digest 270 rfl) rfl ?_
    refine q_iconst (v := 0) (dx D_m_digest 271 rfl) (by decide) ?_
    refine e_callVi (rest := [.long (31 * ((31 * ((31 * ((31 * ((31 * x1) + (Int32.toInt64 r2))) + (Int32.toInt64 r4))) + (Int32.toInt64 r6))) + (Int32.toInt64 r8)))]) [.int 0] (dx D_m_digest 272 rfl) ln_m_digest_309 rfl rfl rfl (Nat.le_of_ble_eq_true rfl) h (fun r10 g9 h => ?_)
    refine e_i2l (dx D_m_digest 273 rfl) ?_
    refine e_ladd (dx D_m_digest 274 rfl) ?_
    exact e_lret (dx D_m_digest 275 rfl) rfl ⟨_, rfl, h⟩
  · replace h := h.2 c
    refine e_ldc2 (v := 31) (dx D_m_digest 215 rfl) k1411 ?_
    refine e_lload_n (dx D_m_digest 216 rfl) rfl ?_
    refine e_lmul (dx D_m_digest 217 rfl) ?_
    refine e_aload_n (dx D_m_digest 218 rfl) rfl ?_
    refine e_getR (dx D_m_digest 219 rfl) fl_RX9_55 rfl rfl ?_
    refine e_iload_n (dx D_m_digest 220 rfl) rfl ?_
    obtain ⟨hb11, h⟩ := h
    refine e_iald (dx D_m_digest 221 rfl) rfl hb11 ?_
    refine e_i2l (dx D_m_digest 222 rfl) ?_
    refine e_ladd (dx D_m_digest 223 rfl) ?_
    refine q_lstore_n (L' := [some (.ref 34), some (.long ((31 * x1) + (Int32.toInt64 (g 50 (x3).toNatClampNeg)))), none, some (.int x3), none]) (dx D_m_digest 224 rfl) (by decide) rfl ?_
    refine q_iinc (d := 1) (L' := [some (.ref 34), some (.long ((31 * x1) + (Int32.toInt64 (g 50 (x3).toNatClampNeg)))), none, some (.int (x3 + 1)), none]) (dx D_m_digest 225 rfl) rfl (by decide) (by decide) rfl ?_
    refine e_goto (tgt := 328) (dx D_m_digest 226 rfl) (by decide) ?_
    exact h
