abbrev Ck_bitCount (x0 : Int32) (g : Sg) (Q : Int32 → Sg → Prop) : Prop := Ci Mk_bitCount [.int x0] g Q
set_option maxRecDepth 20000 in
theorem Vk_bitCount {x0 : Int32} {g : Sg} {Q : Int32 → Sg → Prop} (h : Q ((((((((x0 - ((Int32.toUInt32 x0 >>> (Int32.toUInt32 1 &&& Int32.toUInt32 31)).toInt32 &&& 1431655765)) &&& 858993459) + ((Int32.toUInt32 (x0 - ((Int32.toUInt32 x0 >>> (Int32.toUInt32 1 &&& Int32.toUInt32 31)).toInt32 &&& 1431655765)) >>> (Int32.toUInt32 2 &&& Int32.toUInt32 31)).toInt32 &&& 858993459)) + (Int32.toUInt32 (((x0 - ((Int32.toUInt32 x0 >>> (Int32.toUInt32 1 &&& Int32.toUInt32 31)).toInt32 &&& 1431655765)) &&& 858993459) + ((Int32.toUInt32 (x0 - ((Int32.toUInt32 x0 >>> (Int32.toUInt32 1 &&& Int32.toUInt32 31)).toInt32 &&& 1431655765)) >>> (Int32.toUInt32 2 &&& Int32.toUInt32 31)).toInt32 &&& 858993459)) >>> (Int32.toUInt32 4 &&& Int32.toUInt32 31)).toInt32) &&& 252645135) + (Int32.toUInt32 (((((x0 - ((Int32.toUInt32 x0 >>> (Int32.toUInt32 1 &&& Int32.toUInt32 31)).toInt32 &&& 1431655765)) &&& 858993459) + ((Int32.toUInt32 (x0 - ((Int32.toUInt32 x0 >>> (Int32.toUInt32 1 &&& Int32.toUInt32 31)).toInt32 &&& 1431655765)) >>> (Int32.toUInt32 2 &&& Int32.toUInt32 31)).toInt32 &&& 858993459)) + (Int32.toUInt32 (((x0 - ((Int32.toUInt32 x0 >>> (Int32.toUInt32 1 &&& Int32.toUInt32 31)).toInt32 &&& 1431655765)) &&& 858993459) + ((Int32.toUInt32 (x0 - ((Int32.toUInt32 x0 >>> (Int32.toUInt32 1 &&& Int32.toUInt32 31)).toInt32 &&& 1431655765)) >>> (Int32.toUInt32 2 &&& Int32.toUInt32 31)).toInt32 &&& 858993459)) >>> (Int32.toUInt32 4 &&& Int32.toUInt32 31)).toInt32) &&& 252645135) >>> (Int32.toUInt32 8 &&& Int32.toUInt32 31)).toInt32) + (Int32.toUInt32 ((((((x0 - ((Int32.toUInt32 x0 >>> (Int32.toUInt32 1 &&& Int32.toUInt32 31)).toInt32 &&& 1431655765)) &&& 858993459) + ((Int32.toUInt32 (x0 - ((Int32.toUInt32 x0 >>> (Int32.toUInt32 1 &&& Int32.toUInt32 31)).toInt32 &&& 1431655765)) >>> (Int32.toUInt32 2 &&& Int32.toUInt32 31)).toInt32 &&& 858993459)) + (Int32.toUInt32 (((x0 - ((Int32.toUInt32 x0 >>> (Int32.toUInt32 1 &&& Int32.toUInt32 31)).toInt32 &&& 1431655765)) &&& 858993459) + ((Int32.toUInt32 (x0 - ((Int32.toUInt32 x0 >>> (Int32.toUInt32 1 &&& Int32.toUInt32 31)).toInt32 &&& 1431655765)) >>> (Int32.toUInt32 2 &&& Int32.toUInt32 31)).toInt32 &&& 858993459)) >>> (Int32.toUInt32 4 &&& Int32.toUInt32 31)).toInt32) &&& 252645135) + (Int32.toUInt32 (((((x0 - ((Int32.toUInt32 x0 >>> (Int32.toUInt32 1 &&& Int32.toUInt32 31)).toInt32 &&& 1431655765)) &&& 858993459) + ((Int32.toUInt32 (x0 - ((Int32.toUInt32 x0 >>> (Int32.toUInt32 1 &&& Int32.toUInt32 31)).toInt32 &&& 1431655765)) >>> (Int32.toUInt32 2 &&& Int32.toUInt32 31)).toInt32 &&& 858993459)) + (Int32.toUInt32 (((x0 - ((Int32.toUInt32 x0 >>> (Int32.toUInt32 1 &&& Int32.toUInt32 31)).toInt32 &&& 1431655765)) &&& 858993459) + ((Int32.toUInt32 (x0 - ((Int32.toUInt32 x0 >>> (Int32.toUInt32 1 &&& Int32.toUInt32 31)).toInt32 &&& 1431655765)) >>> (Int32.toUInt32 2 &&& Int32.toUInt32 31)).toInt32 &&& 858993459)) >>> (Int32.toUInt32 4 &&& Int32.toUInt32 31)).toInt32) &&& 252645135) >>> (Int32.toUInt32 8 &&& Int32.toUInt32 31)).toInt32) >>> (Int32.toUInt32 16 &&& Int32.toUInt32 31)).toInt32) &&& 63) g) : Ck_bitCount x0 g Q := by
  refine Cl.of 0 pl_J6 rfl ?_
  refine e_iload_n (dx D_k_bitCount 0 rfl) rfl ?_
  refine e_iload_n (dx D_k_bitCount 1 rfl) rfl ?_
  refine q_iconst (v := 1) (dx D_k_bitCount 2 rfl) (by decide) ?_
  refine e_iushr (dx D_k_bitCount 3 rfl) ?_
  refine e_ldcw (v := 1431655765) (dx D_k_bitCount 4 rfl) k902 ?_
  refine e_iand (dx D_k_bitCount 5 rfl) ?_
  refine e_isub (dx D_k_bitCount 6 rfl) ?_
  refine q_istore_n (L' := [some (.int (x0 - ((Int32.toUInt32 x0 >>> (Int32.toUInt32 1 &&& Int32.toUInt32 31)).toInt32 &&& 1431655765)))]) (dx D_k_bitCount 7 rfl) (by decide) rfl ?_
  refine e_iload_n (dx D_k_bitCount 8 rfl) rfl ?_
  refine e_ldcw (v := 858993459) (dx D_k_bitCount 9 rfl) k903 ?_
  refine e_iand (dx D_k_bitCount 10 rfl) ?_
  refine e_iload_n (dx D_k_bitCount 11 rfl) rfl ?_
  refine q_iconst (v := 2) (dx D_k_bitCount 12 rfl) (by decide) ?_
  refine e_iushr (dx D_k_bitCount 13 rfl) ?_
  refine e_ldcw (v := 858993459) (dx D_k_bitCount 14 rfl) k903 ?_
  refine e_iand (dx D_k_bitCount 15 rfl) ?_
  refine e_iadd (dx D_k_bitCount 16 rfl) ?_
  refine q_istore_n (L' := [some (.int (((x0 - ((Int32.toUInt32 x0 >>> (Int32.toUInt32 1 &&& Int32.toUInt32 31)).toInt32 &&& 1431655765)) &&& 858993459) + ((Int32.toUInt32 (x0 - ((Int32.toUInt32 x0 >>> (Int32.toUInt32 1 &&& Int32.toUInt32 31)).toInt32 &&& 1431655765)) >>> (Int32.toUInt32 2 &&& Int32.toUInt32 31)).toInt32 &&& 858993459)))]) (dx D_k_bitCount 17 rfl) (by decide) rfl ?_
  refine e_iload_n (dx D_k_bitCount 18 rfl) rfl ?_
  refine e_iload_n (dx D_k_bitCount 19 rfl) rfl ?_
  refine q_iconst (v := 4) (dx D_k_bitCount 20 rfl) (by decide) ?_
  refine e_iushr (dx D_k_bitCount 21 rfl) ?_
  refine e_iadd (dx D_k_bitCount 22 rfl) ?_
  refine e_ldcw (v := 252645135) (dx D_k_bitCount 23 rfl) k904 ?_
  refine e_iand (dx D_k_bitCount 24 rfl) ?_
  refine q_istore_n (L' := [some (.int (((((x0 - ((Int32.toUInt32 x0 >>> (Int32.toUInt32 1 &&& Int32.toUInt32 31)).toInt32 &&& 1431655765)) &&& 858993459) + ((Int32.toUInt32 (x0 - ((Int32.toUInt32 x0 >>> (Int32.toUInt32 1 &&& Int32.toUInt32 31)).toInt32 &&& 1431655765)) >>> (Int32.toUInt32 2 &&& Int32.toUInt32 31)).toInt32 &&& 858993459)) + (Int32.toUInt32 (((x0 - ((Int32.toUInt32 x0 >>> (Int32.toUInt32 1 &&& Int32.toUInt32 31)).toInt32 &&& 1431655765)) &&& 858993459) + ((Int32.toUInt32 (x0 - ((Int32.toUInt32 x0 >>> (Int32.toUInt32 1 &&& Int32.toUInt32 31)).toInt32 &&& 1431655765)) >>> (Int32.toUInt32 2 &&& Int32.toUInt32 31)).toInt32 &&& 858993459)) >>> (Int32.toUInt32 4 &&& Int32.toUInt32 31)).toInt32) &&& 252645135))]) (dx D_k_bitCount 25 rfl) (by decide) rfl ?_
  refine e_iload_n (dx D_k_bitCount 26 rfl) rfl ?_
  refine e_iload_n (dx D_k_bitCount 27 rfl) rfl ?_
  refine q_bipush (v := 8) (dx D_k_bitCount 28 rfl) (by decide) ?_
  refine e_iushr (dx D_k_bitCount 29 rfl) ?_
  refine e_iadd (dx D_k_bitCount 30 rfl) ?_
  refine q_istore_n (L' := [some (.int ((((((x0 - ((Int32.toUInt32 x0 >>> (Int32.toUInt32 1 &&& Int32.toUInt32 31)).toInt32 &&& 1431655765)) &&& 858993459) + ((Int32.toUInt32 (x0 - ((Int32.toUInt32 x0 >>> (Int32.toUInt32 1 &&& Int32.toUInt32 31)).toInt32 &&& 1431655765)) >>> (Int32.toUInt32 2 &&& Int32.toUInt32 31)).toInt32 &&& 858993459)) + (Int32.toUInt32 (((x0 - ((Int32.toUInt32 x0 >>> (Int32.toUInt32 1 &&& Int32.toUInt32 31)).toInt32 &&& 1431655765)) &&& 858993459) + ((Int32.toUInt32 (x0 - ((Int32.toUInt32 x0 >>> (Int32.toUInt32 1 &&& Int32.toUInt32 31)).toInt32 &&& 1431655765)) >>> (Int32.toUInt32 2 &&& Int32.toUInt32 31)).toInt32 &&& 858993459)) >>> (Int32.toUInt32 4 &&& Int32.toUInt32 31)).toInt32) &&& 252645135) + (Int32.toUInt32 (((((x0 - ((Int32.toUInt32 x0 >>> (Int32.toUInt32 1 &&& Int32.toUInt32 31)).toInt32 &&& 1431655765)) &&& 858993459) + ((Int32.toUInt32 (x0 - ((Int32.toUInt32 x0 >>> (Int32.toUInt32 1 &&& Int32.toUInt32 31)).toInt32 &&& 1431655765)) >>> (Int32.toUInt32 2 &&& Int32.toUInt32 31)).toInt32 &&& 858993459)) + (Int32.toUInt32 (((x0 - ((Int32.toUInt32 x0 >>> (Int32.toUInt32 1 &&& Int32.toUInt32 31)).toInt32 &&& 1431655765)) &&& 858993459) + ((Int32.toUInt32 (x0 - ((Int32.toUInt32 x0 >>> (Int32.toUInt32 1 &&& Int32.toUInt32 31)).toInt32 &&& 1431655765)) >>> (Int32.toUInt32 2 &&& Int32.toUInt32 31)).toInt32 &&& 858993459)) >>> (Int32.toUInt32 4 &&& Int32.toUInt32 31)).toInt32) &&& 252645135) >>> (Int32.toUInt32 8 &&& Int32.toUInt32 31)).toInt32))]) (dx D_k_bitCount 31 rfl) (by decide) rfl ?_
  refine e_iload_n (dx D_k_bitCount 32 rfl) rfl ?_
  refine e_iload_n (dx D_k_bitCount 33 rfl) rfl ?_
  refine q_bipush (v := 16) (dx D_k_bitCount 34 rfl) (by decide) ?_
  refine e_iushr (dx D_k_bitCount 35 rfl) ?_
  refine e_iadd (dx D_k_bitCount 36 rfl) ?_
  refine q_istore_n (L' := [some (.int (((((((x0 - ((Int32.toUInt32 x0 >>> (Int32.toUInt32 1 &&& Int32.toUInt32 31)).toInt32 &&& 1431655765)) &&& 858993459) + ((Int32.toUInt32 (x0 - ((Int32.toUInt32 x0 >>> (Int32.toUInt32 1 &&& Int32.toUInt32 31)).toInt32 &&& 1431655765)) >>> (Int32.toUInt32 2 &&& Int32.toUInt32 31)).toInt32 &&& 858993459)) + (Int32.toUInt32 (((x0 - ((Int32.toUInt32 x0 >>> (Int32.toUInt32 1 &&& Int32.toUInt32 31)).toInt32 &&& 1431655765)) &&& 858993459) + ((Int32.toUInt32 (x0 - ((Int32.toUInt32 x0 >>> (Int32.toUInt32 1 &&& Int32.toUInt32 31)).toInt32 &&& 1431655765)) >>> (Int32.toUInt32 2 &&& Int32.toUInt32 31)).toInt32 &&& 858993459)) >>> (Int32.toUInt32 4 &&& Int32.toUInt32 31)).toInt32) &&& 252645135) + (Int32.toUInt32 (((((x0 - ((Int32.toUInt32 x0 >>> (Int32.toUInt32 1 &&& Int32.toUInt32 31)).toInt32 &&& 1431655765)) &&& 858993459) + ((Int32.toUInt32 (x0 - ((Int32.toUInt32 x0 >>> (Int32.toUInt32 1 &&& Int32.toUInt32 31)).toInt32 &&& 1431655765)) >>> (Int32.toUInt32 2 &&& Int32.toUInt32 31)).toInt32 &&& 858993459)) + (Int32.toUInt32 (((x0 - ((Int32.toUInt32 x0 >>> (Int32.toUInt32 1 &&& Int32.toUInt32 31)).toInt32 &&& 1431655765)) &&& 858993459) + ((Int32.toUInt32 (x0 - ((Int32.toUInt32 x0 >>> (Int32.toUInt32 1 &&& Int32.toUInt32 31)).toInt32 &&& 1431655765)) >>> (Int32.toUInt32 2 &&& Int32.toUInt32 31)).toInt32 &&& 858993459)) >>> (Int32.toUInt32 4 &&& Int32.toUInt32 31)).toInt32) &&& 252645135) >>> (Int32.toUInt32 8 &&& Int32.toUInt32 31)).toInt32) + (Int32.toUInt32 ((((((x0 - ((Int32.toUInt32 x0 >>> (Int32.toUInt32 1 &&& Int32.toUInt32 31)).toInt32 &&& 1431655765)) &&& 858993459) + ((Int32.toUInt32 (x0 - ((Int32.toUInt32 x0 >>> (Int32.toUInt32 1 &&& Int32.toUInt32 31)).toInt32 &&& 1431655765)) >>> (Int32.toUInt32 2 &&& Int32.toUInt32 31)).toInt32 &&& 858993459)) + (Int32.toUInt32 (((x0 - ((Int32.toUInt32 x0 >>> (Int32.toUInt32 1 &&& Int32.toUInt32 31)).toInt32 &&& 1431655765)) &&& 858993459) + ((Int32.toUInt32 (x0 - ((Int32.toUInt32 x0 >>> (Int32.toUInt32 1 &&& Int32.toUInt32 31)).toInt32 &&& 1431655765)) >>> (Int32.toUInt32 2 &&& Int32.toUInt32 31)).toInt32 &&& 858993459)) >>> (Int32.toUInt32 4 &&& Int32.toUInt32 31)).toInt32) &&& 252645135) + (Int32.toUInt32 (((((x0 - ((Int32.toUInt32 x0 >>> (Int32.toUInt32 1 &&& Int32.toUInt32 31)).toInt32 &&& 1431655765)) &&& 858993459) + ((Int32.toUInt32 (x0 - ((Int32.toUInt32 x0 >>> (Int32.toUInt32 1 &&& Int32.toUInt32 31)).toInt32 &&& 1431655765)) >>> (Int32.toUInt32 2 &&& Int32.toUInt32 31)).toInt32 &&& 858993459)) + (Int32.toUInt32 (((x0 - ((Int32.toUInt32 x0 >>> (Int32.toUInt32 1 &&& Int32.toUInt32 31)).toInt32 &&& 1431655765)) &&& 858993459) + ((Int32.toUInt32 (x0 - ((Int32.toUInt32 x0 >>> (Int32.toUInt32 1 &&& Int32.toUInt32 31)).toInt32 &&& 1431655765)) >>> (Int32.toUInt32 2 &&& Int32.toUInt32 31)).toInt32 &&& 858993459)) >>> (Int32.toUInt32 4 &&& Int32.toUInt32 31)).toInt32) &&& 252645135) >>> (Int32.toUInt32 8 &&& Int32.toUInt32 31)).toInt32) >>> (Int32.toUInt32 16 &&& Int32.toUInt32 31)).toInt32))]) (dx D_k_bitCount 37 rfl) (by decide) rfl ?_
  refine e_iload_n (dx D_k_bitCount 38 rfl) rfl ?_
  refine q_bipush (v := 63) (dx D_k_bitCount 39 rfl) (by decide) ?_
  refine e_iand (dx D_k_bitCount 40 rfl) ?_
  exact e_iret (dx D_k_bitCount 41 rfl) rfl rfl ⟨_, rfl, h⟩
abbrev Cx_count (x1 : Int32) (g : Sg) (Q : Int32 → Sg → Prop) : Prop := Ci Mx_count [.ref 0, .int x1] g Q
set_option maxRecDepth 20000 in
theorem Vx_count {x1 : Int32} {g : Sg} {Q : Int32 → Sg → Prop} (h : (((x1).toInt < 0 ∨ 8 < (x1).toInt → Q (-2) g) ∧ (x1 = 0 → Q (g 1 8) g) ∧ (x1 = 1 → Q (g 1 5) g) ∧ (x1 = 2 → Q (g 11 6) g) ∧ (x1 = 3 → Cb_howManyDone g (fun r2 g1 => Q r2 g1)) ∧ (x1 = 4 → Cb_lyingNow g (fun r4 g3 => Ck_bitCount r4 g3 (fun r6 g5 => Q r6 g5))) ∧ (x1 = 5 → Q (g 26 3) g) ∧ (x1 = 6 → Q (g 26 4) g) ∧ (x1 = 7 → Cp_wholeLength g (fun r8 g7 => Q r8 g7)) ∧ (x1 = 8 → Q (g 30 3) g))) : Cx_count x1 g Q := by
  refine Cl.of 0 pl_X8 rfl ?_
  refine e_iload_n (dx D_x_count 0 rfl) rfl ?_
  refine q_tbl [52, 60, 68, 76, 84, 95, 103, 111, 119] 127 (dx D_x_count 1 rfl) (by decide) (by decide) (by decide) (fun c => ?_) (fun i t ht c => ?_)
  · replace h := h.1 c
    refine q_bipush (v := (-2)) (dx D_x_count 39 rfl) (by decide) ?_
    exact e_iret (dx D_x_count 40 rfl) rfl rfl ⟨_, rfl, h⟩
  · match i, ht, c with
    | 0, ht, c =>
      cases ht; replace h := h.2.1 (tb_eq c (by decide))
      refine e_aload_n (dx D_x_count 2 rfl) rfl ?_
      refine e_getR (dx D_x_count 3 rfl) fl_RX8_10 rfl rfl ?_
      refine e_getI (dx D_x_count 4 rfl) fl_RX8_92 rfl rfl ?_
      exact e_iret (dx D_x_count 5 rfl) rfl rfl ⟨_, rfl, h⟩
    | 1, ht, c =>
      cases ht; replace h := h.2.2.1 (tb_eq c (by decide))
      refine e_aload_n (dx D_x_count 6 rfl) rfl ?_
      refine e_getR (dx D_x_count 7 rfl) fl_RX8_10 rfl rfl ?_
      refine e_getI (dx D_x_count 8 rfl) fl_RX8_79 rfl rfl ?_
      exact e_iret (dx D_x_count 9 rfl) rfl rfl ⟨_, rfl, h⟩
    | 2, ht, c =>
      cases ht; replace h := h.2.2.2.1 (tb_eq c (by decide))
      refine e_aload_n (dx D_x_count 10 rfl) rfl ?_
      refine e_getR (dx D_x_count 11 rfl) fl_RX8_30 rfl rfl ?_
      refine e_getI (dx D_x_count 12 rfl) fl_RX8_153 rfl rfl ?_
      exact e_iret (dx D_x_count 13 rfl) rfl rfl ⟨_, rfl, h⟩
    | 3, ht, c =>
      cases ht; replace h := h.2.2.2.2.1 (tb_eq c (by decide))
      refine e_aload_n (dx D_x_count 14 rfl) rfl ?_
      refine e_getR (dx D_x_count 15 rfl) fl_RX8_30 rfl rfl ?_
      refine e_callVi (rest := []) [] (dx D_x_count 16 rfl) ln_x_count_320 rfl rfl rfl (Nat.le_of_ble_eq_true rfl) h (fun r2 g1 h => ?_)
      exact e_iret (dx D_x_count 17 rfl) rfl rfl ⟨_, rfl, h⟩
    | 4, ht, c =>
      cases ht; replace h := h.2.2.2.2.2.1 (tb_eq c (by decide))
      refine e_aload_n (dx D_x_count 18 rfl) rfl ?_
      refine e_getR (dx D_x_count 19 rfl) fl_RX8_30 rfl rfl ?_
      refine e_callVi (rest := []) [] (dx D_x_count 20 rfl) ln_x_count_118 rfl rfl rfl (Nat.le_of_ble_eq_true rfl) h (fun r4 g3 h => ?_)
      refine e_callSi (rest := []) [.int r4] (dx D_x_count 21 rfl) ln_x_count_323 rfl rfl (Nat.le_of_ble_eq_true rfl) h (fun r6 g5 h => ?_)
      exact e_iret (dx D_x_count 22 rfl) rfl rfl ⟨_, rfl, h⟩
    | 5, ht, c =>
      cases ht; replace h := h.2.2.2.2.2.2.1 (tb_eq c (by decide))
      refine e_aload_n (dx D_x_count 23 rfl) rfl ?_
      refine e_getR (dx D_x_count 24 rfl) fl_RX8_60 rfl rfl ?_
      refine e_getI (dx D_x_count 25 rfl) fl_RX8_260 rfl rfl ?_
      exact e_iret (dx D_x_count 26 rfl) rfl rfl ⟨_, rfl, h⟩
    | 6, ht, c =>
      cases ht; replace h := h.2.2.2.2.2.2.2.1 (tb_eq c (by decide))
      refine e_aload_n (dx D_x_count 27 rfl) rfl ?_
      refine e_getR (dx D_x_count 28 rfl) fl_RX8_60 rfl rfl ?_
      refine e_getI (dx D_x_count 29 rfl) fl_RX8_278 rfl rfl ?_
      exact e_iret (dx D_x_count 30 rfl) rfl rfl ⟨_, rfl, h⟩
    | 7, ht, c =>
      cases ht; replace h := h.2.2.2.2.2.2.2.2.1 (tb_eq c (by decide))
      refine e_aload_n (dx D_x_count 31 rfl) rfl ?_
      refine e_getR (dx D_x_count 32 rfl) fl_RX8_10 rfl rfl ?_
      refine e_callVi (rest := []) [] (dx D_x_count 33 rfl) ln_x_count_328 rfl rfl rfl (Nat.le_of_ble_eq_true rfl) h (fun r8 g7 h => ?_)
      exact e_iret (dx D_x_count 34 rfl) rfl rfl ⟨_, rfl, h⟩
    | 8, ht, c =>
      cases ht; replace h := h.2.2.2.2.2.2.2.2.2 (tb_eq c (by decide))
      refine e_aload_n (dx D_x_count 35 rfl) rfl ?_
      refine e_getR (dx D_x_count 36 rfl) fl_RX8_67 rfl rfl ?_
      refine e_getI (dx D_x_count 37 rfl) fl_RX8_331 rfl rfl ?_
      exact e_iret (dx D_x_count 38 rfl) rfl rfl ⟨_, rfl, h⟩
    | n + 9, ht, c => simp at ht
abbrev Cx_mix (x0 : Int64) (x2 : Int32) (g : Sg) (Q : Int64 → Sg → Prop) : Prop := Cj Mx_mix [.long x0, .int x2] g Q
set_option maxRecDepth 20000 in
theorem Vx_mix {x0 : Int64} {x2 : Int32} {g : Sg} {Q : Int64 → Sg → Prop} (h : Q ((31 * x0) + (Int32.toInt64 x2)) g) : Cx_mix x0 x2 g Q := by
  refine Cl.of 0 pl_X8 rfl ?_
  refine e_ldc2 (v := 31) (dx D_x_mix 0 rfl) k918 ?_
  refine e_lload_n (dx D_x_mix 1 rfl) rfl ?_
  refine e_lmul (dx D_x_mix 2 rfl) ?_
  refine e_iload_n (dx D_x_mix 3 rfl) rfl ?_
  refine e_i2l (dx D_x_mix 4 rfl) ?_
  refine e_ladd (dx D_x_mix 5 rfl) ?_
  exact e_lret (dx D_x_mix 6 rfl) rfl ⟨_, rfl, h⟩
abbrev Cx_mixPipes (x1 : Int64) (g : Sg) (Q : Int64 → Sg → Prop) : Prop := Cj Mx_mixPipes [.ref 0, .long x1] g Q
abbrev Hx_mixPipes_5 (x3 : Int64) (x5 : Int32) (g : Sg) (Q : Int64 → Sg → Prop) : Prop := Hj Mx_mixPipes 5 [some (.ref 0), none, none, some (.long x3), none, some (.int x5), none] [] g Q
abbrev Hx_mixPipes_20 (x3 : Int64) (x5 : Int32) (x6 : Int32) (g : Sg) (Q : Int64 → Sg → Prop) : Prop := Hj Mx_mixPipes 20 [some (.ref 0), none, none, some (.long x3), none, some (.int x5), some (.int x6)] [] g Q
set_option maxRecDepth 20000 in
theorem Vx_mixPipes {x1 : Int64} {g : Sg} {Q : Int64 → Sg → Prop} (h : Hx_mixPipes_5 x1 0 g Q) : Cx_mixPipes x1 g Q := by
  refine Cl.of 4 pl_X8 rfl ?_
  refine e_lload_n (dx D_x_mixPipes 0 rfl) rfl ?_
  refine q_lstore_n (L' := [some (.ref 0), some (.long x1), none, some (.long x1), none, none, none]) (dx D_x_mixPipes 1 rfl) (by decide) rfl ?_
  refine q_iconst (v := 0) (dx D_x_mixPipes 2 rfl) (by decide) ?_
  refine q_istore (L' := [some (.ref 0), some (.long x1), none, some (.long x1), none, some (.int 0), none]) (dx D_x_mixPipes 3 rfl) (by decide) rfl ?_
  exact Wp.mask [true, false, false, true, false, true, false] h
set_option maxRecDepth 20000 in
theorem Vx_mixPipes_5 {x3 : Int64} {x5 : Int32} {g : Sg} {Q : Int64 → Sg → Prop} (h : (((g 1 8) ≤ x5 → Q x3 g) ∧ (¬ (g 1 8) ≤ x5 → Hx_mixPipes_20 x3 x5 0 g Q))) : Hx_mixPipes_5 x3 x5 g Q := by
  refine e_iload (dx D_x_mixPipes 4 rfl) rfl ?_
  refine e_aload_n (dx D_x_mixPipes 5 rfl) rfl ?_
  refine e_getR (dx D_x_mixPipes 6 rfl) fl_RX8_10 rfl rfl ?_
  refine e_getI (dx D_x_mixPipes 7 rfl) fl_RX8_92 rfl rfl ?_
  refine e_icmp_ge (tgt := 51) (dx D_x_mixPipes 8 rfl) (by decide) (fun c => ?_) (fun c => ?_)
  · replace h := h.1 c
    refine e_lload_n (dx D_x_mixPipes 25 rfl) rfl ?_
    exact e_lret (dx D_x_mixPipes 26 rfl) rfl ⟨_, rfl, h⟩
  · replace h := h.2 c
    refine q_iconst (v := 0) (dx D_x_mixPipes 9 rfl) (by decide) ?_
    refine q_istore (L' := [some (.ref 0), none, none, some (.long x3), none, some (.int x5), some (.int 0)]) (dx D_x_mixPipes 10 rfl) (by decide) rfl ?_
    exact h
set_option maxRecDepth 20000 in
theorem Vx_mixPipes_20 {x3 : Int64} {x5 : Int32} {x6 : Int32} {g : Sg} {Q : Int64 → Sg → Prop} (h : ((4 < x6 → Hx_mixPipes_5 x3 (x5 + 1) g Q) ∧ (¬ 4 < x6 → Cx_pipe x5 x6 g (fun r2 g1 => Cx_mix x3 r2 g1 (fun r4 g3 => Hx_mixPipes_20 r4 x5 (x6 + 1) g3 Q))))) : Hx_mixPipes_20 x3 x5 x6 g Q := by
  refine e_iload (dx D_x_mixPipes 11 rfl) rfl ?_
  refine q_iconst (v := 4) (dx D_x_mixPipes 12 rfl) (by decide) ?_
  refine e_icmp_gt (tgt := 45) (dx D_x_mixPipes 13 rfl) (by decide) (fun c => ?_) (fun c => ?_)
  · replace h := h.1 c
    refine q_iinc (d := 1) (L' := [some (.ref 0), none, none, some (.long x3), none, some (.int (x5 + 1)), some (.int x6)]) (dx D_x_mixPipes 23 rfl) rfl (by decide) (by decide) rfl ?_
    refine e_goto (tgt := 5) (dx D_x_mixPipes 24 rfl) (by decide) ?_
    exact Wp.mask [true, false, false, true, false, true, false] h
  · replace h := h.2 c
    refine e_lload_n (dx D_x_mixPipes 14 rfl) rfl ?_
    refine e_aload_n (dx D_x_mixPipes 15 rfl) rfl ?_
    refine e_iload (dx D_x_mixPipes 16 rfl) rfl ?_
    refine e_iload (dx D_x_mixPipes 17 rfl) rfl ?_
    refine e_callVi (rest := [.long x3]) [.int x5, .int x6] (dx D_x_mixPipes 18 rfl) ln_x_mixPipes_386 rfl rfl rfl (Nat.le_of_ble_eq_true rfl) h (fun r2 g1 h => ?_)
    refine e_callSj (rest := []) [.long x3, .int r2] (dx D_x_mixPipes 19 rfl) ln_x_mixPipes_339 rfl rfl (Nat.le_of_ble_eq_true rfl) h (fun r4 g3 h => ?_)
    refine q_lstore_n (L' := [some (.ref 0), none, none, some (.long r4), none, some (.int x5), some (.int x6)]) (dx D_x_mixPipes 20 rfl) (by decide) rfl ?_
    refine q_iinc (d := 1) (L' := [some (.ref 0), none, none, some (.long r4), none, some (.int x5), some (.int (x6 + 1))]) (dx D_x_mixPipes 21 rfl) rfl (by decide) (by decide) rfl ?_
    refine e_goto (tgt := 20) (dx D_x_mixPipes 22 rfl) (by decide) ?_
    exact h
abbrev Cx_mixWires (x1 : Int64) (g : Sg) (Q : Int64 → Sg → Prop) : Prop := Cj Mx_mixWires [.ref 0, .long x1] g Q
abbrev Hx_mixWires_5 (x3 : Int64) (x5 : Int32) (g : Sg) (Q : Int64 → Sg → Prop) : Prop := Hj Mx_mixWires 5 [some (.ref 0), none, none, some (.long x3), none, some (.int x5)] [] g Q
set_option maxRecDepth 20000 in
theorem Vx_mixWires {x1 : Int64} {g : Sg} {Q : Int64 → Sg → Prop} (h : Hx_mixWires_5 x1 0 g Q) : Cx_mixWires x1 g Q := by
  refine Cl.of 3 pl_X8 rfl ?_
  refine e_lload_n (dx D_x_mixWires 0 rfl) rfl ?_
  refine q_lstore_n (L' := [some (.ref 0), some (.long x1), none, some (.long x1), none, none]) (dx D_x_mixWires 1 rfl) (by decide) rfl ?_
  refine q_iconst (v := 0) (dx D_x_mixWires 2 rfl) (by decide) ?_
  refine q_istore (L' := [some (.ref 0), some (.long x1), none, some (.long x1), none, some (.int 0)]) (dx D_x_mixWires 3 rfl) (by decide) rfl ?_
  exact Wp.mask [true, false, false, true, false, true] h
set_option maxRecDepth 20000 in
theorem Vx_mixWires_5 {x3 : Int64} {x5 : Int32} {g : Sg} {Q : Int64 → Sg → Prop} (h : ((16 ≤ x5 → Q x3 g) ∧ (¬ 16 ≤ x5 → Cx_wire (g 11 6) x5 g (fun r2 g1 => Cx_mix x3 r2 g1 (fun r4 g3 => Cx_out x5 g3 (fun r6 g5 => Cx_mix r4 r6 g5 (fun r8 g7 => Cx_fails x5 g7 (fun r10 g9 => Cx_mix r8 r10 g9 (fun r12 g11 => Hx_mixWires_5 r12 (x5 + 1) g11 Q))))))))) : Hx_mixWires_5 x3 x5 g Q := by
  refine e_iload (dx D_x_mixWires 4 rfl) rfl ?_
  refine q_bipush (v := 16) (dx D_x_mixWires 5 rfl) (by decide) ?_
  refine e_icmp_ge (tgt := 58) (dx D_x_mixWires 6 rfl) (by decide) (fun c => ?_) (fun c => ?_)
  · replace h := h.1 c
    refine e_lload_n (dx D_x_mixWires 30 rfl) rfl ?_
    exact e_lret (dx D_x_mixWires 31 rfl) rfl ⟨_, rfl, h⟩
  · replace h := h.2 c
    refine e_lload_n (dx D_x_mixWires 7 rfl) rfl ?_
    refine e_aload_n (dx D_x_mixWires 8 rfl) rfl ?_
    refine e_aload_n (dx D_x_mixWires 9 rfl) rfl ?_
    refine e_getR (dx D_x_mixWires 10 rfl) fl_RX8_30 rfl rfl ?_
    refine e_getI (dx D_x_mixWires 11 rfl) fl_RX8_153 rfl rfl ?_
    refine e_iload (dx D_x_mixWires 12 rfl) rfl ?_
    refine e_callVi (rest := [.long x3]) [.int (g 11 6), .int x5] (dx D_x_mixWires 13 rfl) ln_x_mixWires_389 rfl rfl rfl (Nat.le_of_ble_eq_true rfl) h (fun r2 g1 h => ?_)
    refine e_callSj (rest := []) [.long x3, .int r2] (dx D_x_mixWires 14 rfl) ln_x_mixWires_339 rfl rfl (Nat.le_of_ble_eq_true rfl) h (fun r4 g3 h => ?_)
    refine q_lstore_n (L' := [some (.ref 0), none, none, some (.long r4), none, some (.int x5)]) (dx D_x_mixWires 15 rfl) (by decide) rfl ?_
    refine e_lload_n (dx D_x_mixWires 16 rfl) rfl ?_
    refine e_aload_n (dx D_x_mixWires 17 rfl) rfl ?_
    refine e_iload (dx D_x_mixWires 18 rfl) rfl ?_
    refine e_callVi (rest := [.long r4]) [.int x5] (dx D_x_mixWires 19 rfl) ln_x_mixWires_392 rfl rfl rfl (Nat.le_of_ble_eq_true rfl) h (fun r6 g5 h => ?_)
    refine e_callSj (rest := []) [.long r4, .int r6] (dx D_x_mixWires 20 rfl) ln_x_mixWires_339 rfl rfl (Nat.le_of_ble_eq_true rfl) h (fun r8 g7 h => ?_)
    refine q_lstore_n (L' := [some (.ref 0), none, none, some (.long r8), none, some (.int x5)]) (dx D_x_mixWires 21 rfl) (by decide) rfl ?_
    refine e_lload_n (dx D_x_mixWires 22 rfl) rfl ?_
    refine e_aload_n (dx D_x_mixWires 23 rfl) rfl ?_
    refine e_iload (dx D_x_mixWires 24 rfl) rfl ?_
    refine e_callVi (rest := [.long r8]) [.int x5] (dx D_x_mixWires 25 rfl) ln_x_mixWires_395 rfl rfl rfl (Nat.le_of_ble_eq_true rfl) h (fun r10 g9 h => ?_)
    refine e_callSj (rest := []) [.long r8, .int r10] (dx D_x_mixWires 26 rfl) ln_x_mixWires_339 rfl rfl (Nat.le_of_ble_eq_true rfl) h (fun r12 g11 h => ?_)
    refine q_lstore_n (L' := [some (.ref 0), none, none, some (.long r12), none, some (.int x5)]) (dx D_x_mixWires 27 rfl) (by decide) rfl ?_
    refine q_iinc (d := 1) (L' := [some (.ref 0), none, none, some (.long r12), none, some (.int (x5 + 1))]) (dx D_x_mixWires 28 rfl) rfl (by decide) (by decide) rfl ?_
    refine e_goto (tgt := 5) (dx D_x_mixWires 29 rfl) (by decide) ?_
    exact h
abbrev Cx_mixEnds (x1 : Int64) (g : Sg) (Q : Int64 → Sg → Prop) : Prop := Cj Mx_mixEnds [.ref 0, .long x1] g Q
abbrev Hx_mixEnds_5 (x3 : Int64) (x5 : Int32) (g : Sg) (Q : Int64 → Sg → Prop) : Prop := Hj Mx_mixEnds 5 [some (.ref 0), none, none, some (.long x3), none, some (.int x5)] [] g Q
set_option maxRecDepth 20000 in
theorem Vx_mixEnds {x1 : Int64} {g : Sg} {Q : Int64 → Sg → Prop} (h : Hx_mixEnds_5 x1 1 g Q) : Cx_mixEnds x1 g Q := by
  refine Cl.of 3 pl_X8 rfl ?_
  refine e_lload_n (dx D_x_mixEnds 0 rfl) rfl ?_
  refine q_lstore_n (L' := [some (.ref 0), some (.long x1), none, some (.long x1), none, none]) (dx D_x_mixEnds 1 rfl) (by decide) rfl ?_
  refine q_iconst (v := 1) (dx D_x_mixEnds 2 rfl) (by decide) ?_
  refine q_istore (L' := [some (.ref 0), some (.long x1), none, some (.long x1), none, some (.int 1)]) (dx D_x_mixEnds 3 rfl) (by decide) rfl ?_
  exact Wp.mask [true, false, false, true, false, true] h
set_option maxRecDepth 20000 in
theorem Vx_mixEnds_5 {x3 : Int64} {x5 : Int32} {g : Sg} {Q : Int64 → Sg → Prop} (h : ((8 ≤ x5 → Q x3 g) ∧ (¬ 8 ≤ x5 → Cx_shortest 0 x5 (-1) g (fun r2 g1 => Cx_mix x3 r2 g1 (fun r4 g3 => Cx_most 0 x5 0 g3 (fun r6 g5 => Cx_mix r4 r6 g5 (fun r8 g7 => Cx_most 0 x5 1 g7 (fun r10 g9 => Cx_mix r8 r10 g9 (fun r12 g11 => Cx_heard 0 3 x5 g11 (fun r14 g13 => Cx_mix r12 r14 g13 (fun r16 g15 => Hx_mixEnds_5 r16 (x5 + 1) g15 Q))))))))))) : Hx_mixEnds_5 x3 x5 g Q := by
  refine e_iload (dx D_x_mixEnds 4 rfl) rfl ?_
  refine q_bipush (v := 8) (dx D_x_mixEnds 5 rfl) (by decide) ?_
  refine e_icmp_ge (tgt := 70) (dx D_x_mixEnds 6 rfl) (by decide) (fun c => ?_) (fun c => ?_)
  · replace h := h.1 c
    refine e_lload_n (dx D_x_mixEnds 41 rfl) rfl ?_
    exact e_lret (dx D_x_mixEnds 42 rfl) rfl ⟨_, rfl, h⟩
  · replace h := h.2 c
    refine e_lload_n (dx D_x_mixEnds 7 rfl) rfl ?_
    refine e_aload_n (dx D_x_mixEnds 8 rfl) rfl ?_
    refine q_iconst (v := 0) (dx D_x_mixEnds 9 rfl) (by decide) ?_
    refine e_iload (dx D_x_mixEnds 10 rfl) rfl ?_
    refine q_iconst (v := (-1)) (dx D_x_mixEnds 11 rfl) (by decide) ?_
    refine e_callVi (rest := [.long x3]) [.int 0, .int x5, .int (-1)] (dx D_x_mixEnds 12 rfl) ln_x_mixEnds_398 rfl rfl rfl (Nat.le_of_ble_eq_true rfl) h (fun r2 g1 h => ?_)
    refine e_callSj (rest := []) [.long x3, .int r2] (dx D_x_mixEnds 13 rfl) ln_x_mixEnds_339 rfl rfl (Nat.le_of_ble_eq_true rfl) h (fun r4 g3 h => ?_)
    refine q_lstore_n (L' := [some (.ref 0), none, none, some (.long r4), none, some (.int x5)]) (dx D_x_mixEnds 14 rfl) (by decide) rfl ?_
    refine e_lload_n (dx D_x_mixEnds 15 rfl) rfl ?_
    refine e_aload_n (dx D_x_mixEnds 16 rfl) rfl ?_
    refine q_iconst (v := 0) (dx D_x_mixEnds 17 rfl) (by decide) ?_
    refine e_iload (dx D_x_mixEnds 18 rfl) rfl ?_
    refine q_iconst (v := 0) (dx D_x_mixEnds 19 rfl) (by decide) ?_
    refine e_callVi (rest := [.long r4]) [.int 0, .int x5, .int 0] (dx D_x_mixEnds 20 rfl) ln_x_mixEnds_401 rfl rfl rfl (Nat.le_of_ble_eq_true rfl) h (fun r6 g5 h => ?_)
    refine e_callSj (rest := []) [.long r4, .int r6] (dx D_x_mixEnds 21 rfl) ln_x_mixEnds_339 rfl rfl (Nat.le_of_ble_eq_true rfl) h (fun r8 g7 h => ?_)
    refine q_lstore_n (L' := [some (.ref 0), none, none, some (.long r8), none, some (.int x5)]) (dx D_x_mixEnds 22 rfl) (by decide) rfl ?_
    refine e_lload_n (dx D_x_mixEnds 23 rfl) rfl ?_
    refine e_aload_n (dx D_x_mixEnds 24 rfl) rfl ?_
    refine q_iconst (v := 0) (dx D_x_mixEnds 25 rfl) (by decide) ?_
    refine e_iload (dx D_x_mixEnds 26 rfl) rfl ?_
    refine q_iconst (v := 1) (dx D_x_mixEnds 27 rfl) (by decide) ?_
    refine e_callVi (rest := [.long r8]) [.int 0, .int x5, .int 1] (dx D_x_mixEnds 28 rfl) ln_x_mixEnds_401 rfl rfl rfl (Nat.le_of_ble_eq_true rfl) h (fun r10 g9 h => ?_)
    refine e_callSj (rest := []) [.long r8, .int r10] (dx D_x_mixEnds 29 rfl) ln_x_mixEnds_339 rfl rfl (Nat.le_of_ble_eq_true rfl) h (fun r12 g11 h => ?_)
    refine q_lstore_n (L' := [some (.ref 0), none, none, some (.long r12), none, some (.int x5)]) (dx D_x_mixEnds 30 rfl) (by decide) rfl ?_
    refine e_lload_n (dx D_x_mixEnds 31 rfl) rfl ?_
    refine e_aload_n (dx D_x_mixEnds 32 rfl) rfl ?_
    refine q_iconst (v := 0) (dx D_x_mixEnds 33 rfl) (by decide) ?_
    refine q_iconst (v := 3) (dx D_x_mixEnds 34 rfl) (by decide) ?_
    refine e_iload (dx D_x_mixEnds 35 rfl) rfl ?_
    refine e_callVi (rest := [.long r12]) [.int 0, .int 3, .int x5] (dx D_x_mixEnds 36 rfl) ln_x_mixEnds_371 rfl rfl rfl (Nat.le_of_ble_eq_true rfl) h (fun r14 g13 h => ?_)
    refine e_callSj (rest := []) [.long r12, .int r14] (dx D_x_mixEnds 37 rfl) ln_x_mixEnds_339 rfl rfl (Nat.le_of_ble_eq_true rfl) h (fun r16 g15 h => ?_)
    refine q_lstore_n (L' := [some (.ref 0), none, none, some (.long r16), none, some (.int x5)]) (dx D_x_mixEnds 38 rfl) (by decide) rfl ?_
    refine q_iinc (d := 1) (L' := [some (.ref 0), none, none, some (.long r16), none, some (.int (x5 + 1))]) (dx D_x_mixEnds 39 rfl) rfl (by decide) (by decide) rfl ?_
    refine e_goto (tgt := 5) (dx D_x_mixEnds 40 rfl) (by decide) ?_
    exact h
abbrev Cx_digest (g : Sg) (Q : Int64 → Sg → Prop) : Prop := Cj Mx_digest [.ref 0] g Q
abbrev Hx_digest_6 (x1 : Int64) (x3 : Int32) (g : Sg) (Q : Int64 → Sg → Prop) : Prop := Hj Mx_digest 6 [some (.ref 0), some (.long x1), none, some (.int x3)] [] g Q
set_option maxRecDepth 20000 in
theorem Vx_digest {g : Sg} {Q : Int64 → Sg → Prop} (h : Hx_digest_6 17 0 g Q) : Cx_digest g Q := by
  refine Cl.of 3 pl_X8 rfl ?_
  refine e_ldc2 (v := 17) (dx D_x_digest 0 rfl) k913 ?_
  refine q_lstore_n (L' := [some (.ref 0), some (.long 17), none, none]) (dx D_x_digest 1 rfl) (by decide) rfl ?_
  refine q_iconst (v := 0) (dx D_x_digest 2 rfl) (by decide) ?_
  refine q_istore_n (L' := [some (.ref 0), some (.long 17), none, some (.int 0)]) (dx D_x_digest 3 rfl) (by decide) rfl ?_
  exact h
set_option maxRecDepth 20000 in
theorem Vx_digest_6 {x1 : Int64} {x3 : Int32} {g : Sg} {Q : Int64 → Sg → Prop} (h : ((7 < x3 → Cx_fault g (fun r2 g1 => Cx_mix x1 r2 g1 (fun r4 g3 => Cx_judged g3 (fun r6 g5 => Cx_mix r4 r6 g5 (fun r8 g7 => Cx_mixPipes r8 g7 (fun r10 g9 => Cx_mixWires r10 g9 (fun r12 g11 => Cx_state (g11 11 6) 0 g11 (fun r14 g13 => Cx_mix r12 r14 g13 (fun r16 g15 => Cx_state (g15 11 6) 1 g15 (fun r18 g17 => Cx_mix r16 r18 g17 (fun r20 g19 => Cx_soonest g19 (fun r22 g21 => Cx_mix r20 r22 g21 (fun r24 g23 => Cx_left 9 g23 (fun r26 g25 => Cx_mix r24 r26 g25 (fun r28 g27 => Cx_burns 0 g27 (fun r30 g29 => Cx_mix r28 r30 g29 (fun r32 g31 => Cx_burns 5 g31 (fun r34 g33 => Cx_mix r32 r34 g33 (fun r36 g35 => Cx_mixEnds r36 g35 (fun r38 g37 => Cl_seek 14 g37 (fun g39 => Cx_mix r38 (g39 20 3) g39 (fun r41 g40 => Cx_mix r41 (g40 20 4) g40 (fun r43 g42 => Cx_mix r43 (g42 20 5) g42 (fun r45 g44 => Cx_heard 0 4 (-1) g44 (fun r47 g46 => Cx_mix r45 r47 g46 (fun r49 g48 => Cx_drowsy 7 0 9 g48 (fun r51 g50 => Cx_mix r49 r51 g50 (fun r53 g52 => Cx_lies g52 (fun r55 g54 => Cx_mix r53 r55 g54 (fun r57 g56 => Cx_scenes (g56 11 6) g56 (fun r59 g58 => Cx_mix r57 r59 g58 (fun r61 g60 => Cx_cue 0 g60 (fun r63 g62 => Cx_mix r61 r63 g62 (fun r65 g64 => Q r65 g64)))))))))))))))))))))))))))))))))) ∧ (¬ 7 < x3 → Cx_count x3 g (fun r67 g66 => Cx_mix x1 r67 g66 (fun r69 g68 => Hx_digest_6 r69 (x3 + 1) g68 Q))))) : Hx_digest_6 x1 x3 g Q := by
  refine e_iload_n (dx D_x_digest 4 rfl) rfl ?_
  refine q_bipush (v := 7) (dx D_x_digest 5 rfl) (by decide) ?_
  refine e_icmp_gt (tgt := 28) (dx D_x_digest 6 rfl) (by decide) (fun c => ?_) (fun c => ?_)
  · replace h := h.1 c
    refine e_lload_n (dx D_x_digest 15 rfl) rfl ?_
    refine e_aload_n (dx D_x_digest 16 rfl) rfl ?_
    refine e_callVi (rest := [.long x1]) [] (dx D_x_digest 17 rfl) ln_x_digest_343 rfl rfl rfl (Nat.le_of_ble_eq_true rfl) h (fun r2 g1 h => ?_)
    refine e_callSj (rest := []) [.long x1, .int r2] (dx D_x_digest 18 rfl) ln_x_digest_339 rfl rfl (Nat.le_of_ble_eq_true rfl) h (fun r4 g3 h => ?_)
    refine q_lstore_n (L' := [some (.ref 0), some (.long r4), none, some (.int x3)]) (dx D_x_digest 19 rfl) (by decide) rfl ?_
    refine e_lload_n (dx D_x_digest 20 rfl) rfl ?_
    refine e_aload_n (dx D_x_digest 21 rfl) rfl ?_
    refine e_callVi (rest := [.long r4]) [] (dx D_x_digest 22 rfl) ln_x_digest_346 rfl rfl rfl (Nat.le_of_ble_eq_true rfl) h (fun r6 g5 h => ?_)
    refine e_callSj (rest := []) [.long r4, .int r6] (dx D_x_digest 23 rfl) ln_x_digest_339 rfl rfl (Nat.le_of_ble_eq_true rfl) h (fun r8 g7 h => ?_)
    refine q_lstore_n (L' := [some (.ref 0), some (.long r8), none, some (.int x3)]) (dx D_x_digest 24 rfl) (by decide) rfl ?_
    refine e_aload_n (dx D_x_digest 25 rfl) rfl ?_
    refine e_lload_n (dx D_x_digest 26 rfl) rfl ?_
    refine e_callVj (rest := []) [.long r8] (dx D_x_digest 27 rfl) ln_x_digest_349 rfl rfl rfl (Nat.le_of_ble_eq_true rfl) h (fun r10 g9 h => ?_)
    refine q_lstore_n (L' := [some (.ref 0), some (.long r10), none, some (.int x3)]) (dx D_x_digest 28 rfl) (by decide) rfl ?_
    refine e_aload_n (dx D_x_digest 29 rfl) rfl ?_
    refine e_lload_n (dx D_x_digest 30 rfl) rfl ?_
    refine e_callVj (rest := []) [.long r10] (dx D_x_digest 31 rfl) ln_x_digest_353 rfl rfl rfl (Nat.le_of_ble_eq_true rfl) h (fun r12 g11 h => ?_)
    refine q_lstore_n (L' := [some (.ref 0), some (.long r12), none, some (.int x3)]) (dx D_x_digest 32 rfl) (by decide) rfl ?_
    refine e_lload_n (dx D_x_digest 33 rfl) rfl ?_
    refine e_aload_n (dx D_x_digest 34 rfl) rfl ?_
    refine e_aload_n (dx D_x_digest 35 rfl) rfl ?_
    refine e_getR (dx D_x_digest 36 rfl) fl_RX8_30 rfl rfl ?_
    refine e_getI (dx D_x_digest 37 rfl) fl_RX8_153 rfl rfl ?_
    refine q_iconst (v := 0) (dx D_x_digest 38 rfl) (by decide) ?_
    refine e_callVi (rest := [.long r12]) [.int (g11 11 6), .int 0] (dx D_x_digest 39 rfl) ln_x_digest_356 rfl rfl rfl (Nat.le_of_ble_eq_true rfl) h (fun r14 g13 h => ?_)
    refine e_callSj (rest := []) [.long r12, .int r14] (dx D_x_digest 40 rfl) ln_x_digest_339 rfl rfl (Nat.le_of_ble_eq_true rfl) h (fun r16 g15 h => ?_)
    refine q_lstore_n (L' := [some (.ref 0), some (.long r16), none, some (.int x3)]) (dx D_x_digest 41 rfl) (by decide) rfl ?_
    refine e_lload_n (dx D_x_digest 42 rfl) rfl ?_
    refine e_aload_n (dx D_x_digest 43 rfl) rfl ?_
    refine e_aload_n (dx D_x_digest 44 rfl) rfl ?_
    refine e_getR (dx D_x_digest 45 rfl) fl_RX8_30 rfl rfl ?_
    refine e_getI (dx D_x_digest 46 rfl) fl_RX8_153 rfl rfl ?_
    refine q_iconst (v := 1) (dx D_x_digest 47 rfl) (by decide) ?_
    refine e_callVi (rest := [.long r16]) [.int (g15 11 6), .int 1] (dx D_x_digest 48 rfl) ln_x_digest_356 rfl rfl rfl (Nat.le_of_ble_eq_true rfl) h (fun r18 g17 h => ?_)
    refine e_callSj (rest := []) [.long r16, .int r18] (dx D_x_digest 49 rfl) ln_x_digest_339 rfl rfl (Nat.le_of_ble_eq_true rfl) h (fun r20 g19 h => ?_)
    refine q_lstore_n (L' := [some (.ref 0), some (.long r20), none, some (.int x3)]) (dx D_x_digest 50 rfl) (by decide) rfl ?_
    refine e_lload_n (dx D_x_digest 51 rfl) rfl ?_
    refine e_aload_n (dx D_x_digest 52 rfl) rfl ?_
    refine e_callVi (rest := [.long r20]) [] (dx D_x_digest 53 rfl) ln_x_digest_359 rfl rfl rfl (Nat.le_of_ble_eq_true rfl) h (fun r22 g21 h => ?_)
    refine e_callSj (rest := []) [.long r20, .int r22] (dx D_x_digest 54 rfl) ln_x_digest_339 rfl rfl (Nat.le_of_ble_eq_true rfl) h (fun r24 g23 h => ?_)
    refine q_lstore_n (L' := [some (.ref 0), some (.long r24), none, some (.int x3)]) (dx D_x_digest 55 rfl) (by decide) rfl ?_
    refine e_lload_n (dx D_x_digest 56 rfl) rfl ?_
    refine e_aload_n (dx D_x_digest 57 rfl) rfl ?_
    refine q_bipush (v := 9) (dx D_x_digest 58 rfl) (by decide) ?_
    refine e_callVi (rest := [.long r24]) [.int 9] (dx D_x_digest 59 rfl) ln_x_digest_362 rfl rfl rfl (Nat.le_of_ble_eq_true rfl) h (fun r26 g25 h => ?_)
    refine e_callSj (rest := []) [.long r24, .int r26] (dx D_x_digest 60 rfl) ln_x_digest_339 rfl rfl (Nat.le_of_ble_eq_true rfl) h (fun r28 g27 h => ?_)
    refine q_lstore_n (L' := [some (.ref 0), some (.long r28), none, some (.int x3)]) (dx D_x_digest 61 rfl) (by decide) rfl ?_
    refine e_lload_n (dx D_x_digest 62 rfl) rfl ?_
    refine e_aload_n (dx D_x_digest 63 rfl) rfl ?_
    refine q_iconst (v := 0) (dx D_x_digest 64 rfl) (by decide) ?_
    refine e_callVi (rest := [.long r28]) [.int 0] (dx D_x_digest 65 rfl) ln_x_digest_365 rfl rfl rfl (Nat.le_of_ble_eq_true rfl) h (fun r30 g29 h => ?_)
    refine e_callSj (rest := []) [.long r28, .int r30] (dx D_x_digest 66 rfl) ln_x_digest_339 rfl rfl (Nat.le_of_ble_eq_true rfl) h (fun r32 g31 h => ?_)
    refine q_lstore_n (L' := [some (.ref 0), some (.long r32), none, some (.int x3)]) (dx D_x_digest 67 rfl) (by decide) rfl ?_
    refine e_lload_n (dx D_x_digest 68 rfl) rfl ?_
    refine e_aload_n (dx D_x_digest 69 rfl) rfl ?_
    refine q_iconst (v := 5) (dx D_x_digest 70 rfl) (by decide) ?_
    refine e_callVi (rest := [.long r32]) [.int 5] (dx D_x_digest 71 rfl) ln_x_digest_365 rfl rfl rfl (Nat.le_of_ble_eq_true rfl) h (fun r34 g33 h => ?_)
    refine e_callSj (rest := []) [.long r32, .int r34] (dx D_x_digest 72 rfl) ln_x_digest_339 rfl rfl (Nat.le_of_ble_eq_true rfl) h (fun r36 g35 h => ?_)
    refine q_lstore_n (L' := [some (.ref 0), some (.long r36), none, some (.int x3)]) (dx D_x_digest 73 rfl) (by decide) rfl ?_
    refine e_aload_n (dx D_x_digest 74 rfl) rfl ?_
    refine e_lload_n (dx D_x_digest 75 rfl) rfl ?_
    refine e_callVj (rest := []) [.long r36] (dx D_x_digest 76 rfl) ln_x_digest_368 rfl rfl rfl (Nat.le_of_ble_eq_true rfl) h (fun r38 g37 h => ?_)
    refine q_lstore_n (L' := [some (.ref 0), some (.long r38), none, some (.int x3)]) (dx D_x_digest 77 rfl) (by decide) rfl ?_
    refine e_aload_n (dx D_x_digest 78 rfl) rfl ?_
    refine e_getR (dx D_x_digest 79 rfl) fl_RX8_46 rfl rfl ?_
    refine q_bipush (v := 14) (dx D_x_digest 80 rfl) (by decide) ?_
    refine e_callVv (rest := []) [.int 14] (dx D_x_digest 81 rfl) ln_x_digest_220 rfl rfl rfl (Nat.le_of_ble_eq_true rfl) h (fun g39 h => ?_)
    refine e_lload_n (dx D_x_digest 82 rfl) rfl ?_
    refine e_aload_n (dx D_x_digest 83 rfl) rfl ?_
    refine e_getR (dx D_x_digest 84 rfl) fl_RX8_46 rfl rfl ?_
    refine e_getI (dx D_x_digest 85 rfl) fl_RX8_223 rfl rfl ?_
    refine e_callSj (rest := []) [.long r38, .int (g39 20 3)] (dx D_x_digest 86 rfl) ln_x_digest_339 rfl rfl (Nat.le_of_ble_eq_true rfl) h (fun r41 g40 h => ?_)
    refine q_lstore_n (L' := [some (.ref 0), some (.long r41), none, some (.int x3)]) (dx D_x_digest 87 rfl) (by decide) rfl ?_
    refine e_lload_n (dx D_x_digest 88 rfl) rfl ?_
    refine e_aload_n (dx D_x_digest 89 rfl) rfl ?_
    refine e_getR (dx D_x_digest 90 rfl) fl_RX8_46 rfl rfl ?_
    refine e_getI (dx D_x_digest 91 rfl) fl_RX8_226 rfl rfl ?_
    refine e_callSj (rest := []) [.long r41, .int (g40 20 4)] (dx D_x_digest 92 rfl) ln_x_digest_339 rfl rfl (Nat.le_of_ble_eq_true rfl) h (fun r43 g42 h => ?_)
    refine q_lstore_n (L' := [some (.ref 0), some (.long r43), none, some (.int x3)]) (dx D_x_digest 93 rfl) (by decide) rfl ?_
    refine e_lload_n (dx D_x_digest 94 rfl) rfl ?_
    refine e_aload_n (dx D_x_digest 95 rfl) rfl ?_
    refine e_getR (dx D_x_digest 96 rfl) fl_RX8_46 rfl rfl ?_
    refine e_getI (dx D_x_digest 97 rfl) fl_RX8_229 rfl rfl ?_
    refine e_callSj (rest := []) [.long r43, .int (g42 20 5)] (dx D_x_digest 98 rfl) ln_x_digest_339 rfl rfl (Nat.le_of_ble_eq_true rfl) h (fun r45 g44 h => ?_)
    refine q_lstore_n (L' := [some (.ref 0), some (.long r45), none, some (.int x3)]) (dx D_x_digest 99 rfl) (by decide) rfl ?_
    refine e_lload_n (dx D_x_digest 100 rfl) rfl ?_
    refine e_aload_n (dx D_x_digest 101 rfl) rfl ?_
    refine q_iconst (v := 0) (dx D_x_digest 102 rfl) (by decide) ?_
    refine q_iconst (v := 4) (dx D_x_digest 103 rfl) (by decide) ?_
    refine q_iconst (v := (-1)) (dx D_x_digest 104 rfl) (by decide) ?_
    refine e_callVi (rest := [.long r45]) [.int 0, .int 4, .int (-1)] (dx D_x_digest 105 rfl) ln_x_digest_371 rfl rfl rfl (Nat.le_of_ble_eq_true rfl) h (fun r47 g46 h => ?_)
    refine e_callSj (rest := []) [.long r45, .int r47] (dx D_x_digest 106 rfl) ln_x_digest_339 rfl rfl (Nat.le_of_ble_eq_true rfl) h (fun r49 g48 h => ?_)
    refine q_lstore_n (L' := [some (.ref 0), some (.long r49), none, some (.int x3)]) (dx D_x_digest 107 rfl) (by decide) rfl ?_
    refine e_lload_n (dx D_x_digest 108 rfl) rfl ?_
    refine e_aload_n (dx D_x_digest 109 rfl) rfl ?_
    refine q_bipush (v := 7) (dx D_x_digest 110 rfl) (by decide) ?_
    refine q_iconst (v := 0) (dx D_x_digest 111 rfl) (by decide) ?_
    refine q_bipush (v := 9) (dx D_x_digest 112 rfl) (by decide) ?_
    refine e_callVi (rest := [.long r49]) [.int 7, .int 0, .int 9] (dx D_x_digest 113 rfl) ln_x_digest_374 rfl rfl rfl (Nat.le_of_ble_eq_true rfl) h (fun r51 g50 h => ?_)
    refine e_callSj (rest := []) [.long r49, .int r51] (dx D_x_digest 114 rfl) ln_x_digest_339 rfl rfl (Nat.le_of_ble_eq_true rfl) h (fun r53 g52 h => ?_)
    refine q_lstore_n (L' := [some (.ref 0), some (.long r53), none, some (.int x3)]) (dx D_x_digest 115 rfl) (by decide) rfl ?_
    refine e_lload_n (dx D_x_digest 116 rfl) rfl ?_
    refine e_aload_n (dx D_x_digest 117 rfl) rfl ?_
    refine e_callVi (rest := [.long r53]) [] (dx D_x_digest 118 rfl) ln_x_digest_377 rfl rfl rfl (Nat.le_of_ble_eq_true rfl) h (fun r55 g54 h => ?_)
    refine e_callSj (rest := []) [.long r53, .int r55] (dx D_x_digest 119 rfl) ln_x_digest_339 rfl rfl (Nat.le_of_ble_eq_true rfl) h (fun r57 g56 h => ?_)
    refine q_lstore_n (L' := [some (.ref 0), some (.long r57), none, some (.int x3)]) (dx D_x_digest 120 rfl) (by decide) rfl ?_
    refine e_lload_n (dx D_x_digest 121 rfl) rfl ?_
    refine e_aload_n (dx D_x_digest 122 rfl) rfl ?_
    refine e_aload_n (dx D_x_digest 123 rfl) rfl ?_
    refine e_getR (dx D_x_digest 124 rfl) fl_RX8_30 rfl rfl ?_
    refine e_getI (dx D_x_digest 125 rfl) fl_RX8_153 rfl rfl ?_
    refine e_callVi (rest := [.long r57]) [.int (g56 11 6)] (dx D_x_digest 126 rfl) ln_x_digest_380 rfl rfl rfl (Nat.le_of_ble_eq_true rfl) h (fun r59 g58 h => ?_)
    refine e_callSj (rest := []) [.long r57, .int r59] (dx D_x_digest 127 rfl) ln_x_digest_339 rfl rfl (Nat.le_of_ble_eq_true rfl) h (fun r61 g60 h => ?_)
    refine q_lstore_n (L' := [some (.ref 0), some (.long r61), none, some (.int x3)]) (dx D_x_digest 128 rfl) (by decide) rfl ?_
    refine e_lload_n (dx D_x_digest 129 rfl) rfl ?_
    refine e_aload_n (dx D_x_digest 130 rfl) rfl ?_
    refine q_iconst (v := 0) (dx D_x_digest 131 rfl) (by decide) ?_
    refine e_callVi (rest := [.long r61]) [.int 0] (dx D_x_digest 132 rfl) ln_x_digest_383 rfl rfl rfl (Nat.le_of_ble_eq_true rfl) h (fun r63 g62 h => ?_)
    refine e_callSj (rest := []) [.long r61, .int r63] (dx D_x_digest 133 rfl) ln_x_digest_339 rfl rfl (Nat.le_of_ble_eq_true rfl) h (fun r65 g64 h => ?_)
    exact e_lret (dx D_x_digest 134 rfl) rfl ⟨_, rfl, h⟩
  · replace h := h.2 c
    refine e_lload_n (dx D_x_digest 7 rfl) rfl ?_
    refine e_aload_n (dx D_x_digest 8 rfl) rfl ?_
    refine e_iload_n (dx D_x_digest 9 rfl) rfl ?_
    refine e_callVi (rest := [.long x1]) [.int x3] (dx D_x_digest 10 rfl) ln_x_digest_336 rfl rfl rfl (Nat.le_of_ble_eq_true rfl) h (fun r67 g66 h => ?_)
    refine e_callSj (rest := []) [.long x1, .int r67] (dx D_x_digest 11 rfl) ln_x_digest_339 rfl rfl (Nat.le_of_ble_eq_true rfl) h (fun r69 g68 h => ?_)
    refine q_lstore_n (L' := [some (.ref 0), some (.long r69), none, some (.int x3)]) (dx D_x_digest 12 rfl) (by decide) rfl ?_
    refine q_iinc (d := 1) (L' := [some (.ref 0), some (.long r69), none, some (.int (x3 + 1))]) (dx D_x_digest 13 rfl) rfl (by decide) (by decide) rfl ?_
    refine e_goto (tgt := 6) (dx D_x_digest 14 rfl) (by decide) ?_
    exact h
