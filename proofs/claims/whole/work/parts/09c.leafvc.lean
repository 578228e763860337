abbrev Cx_hasBit (x0 : Int32) (x1 : Int32) (g : Sg) (Q : Int32 → Sg → Prop) : Prop := Ci Mx_hasBit [.int x0, .int x1] g Q
set_option maxRecDepth 20000 in
theorem Vx_hasBit {x0 : Int32} {x1 : Int32} {g : Sg} {Q : Int32 → Sg → Prop} (h : (((x0 &&& (sb x1)) = 0 → Q 0 g) ∧ (¬ (x0 &&& (sb x1)) = 0 → Q 1 g))) : Cx_hasBit x0 x1 g Q := by
  refine Cl.of 0 pl_X8 rfl ?_
  refine e_iload_n (dx D_x_hasBit 0 rfl) rfl ?_
  refine q_iconst (v := 1) (dx D_x_hasBit 1 rfl) (by decide) ?_
  refine e_iload_n (dx D_x_hasBit 2 rfl) rfl ?_
  refine e_ishl (dx D_x_hasBit 3 rfl) ?_
  refine e_iand (dx D_x_hasBit 4 rfl) ?_
  refine e_if_eq (tgt := 12) (dx D_x_hasBit 5 rfl) (by decide) (fun c => ?_) (fun c => ?_)
  · replace h := h.1 c
    refine q_iconst (v := 0) (dx D_x_hasBit 8 rfl) (by decide) ?_
    exact e_iret (dx D_x_hasBit 9 rfl) rfl (by decide) ⟨_, rfl, h⟩
  · replace h := h.2 c
    refine q_iconst (v := 1) (dx D_x_hasBit 6 rfl) (by decide) ?_
    refine e_goto (tgt := 13) (dx D_x_hasBit 7 rfl) (by decide) ?_
    exact e_iret (dx D_x_hasBit 9 rfl) rfl (by decide) ⟨_, rfl, h⟩
theorem Ix_hasBit {x0 : Int32} {x1 : Int32} {g : Sg} {Q : Int32 → Sg → Prop} (h : Q (bP (tbb x0 x1 = true)) g) : Cx_hasBit x0 x1 g Q := by
  refine Vx_hasBit ?_
  exact lf_hasBit h
abbrev Cx_bit (x0 : Int32) (g : Sg) (Q : Int32 → Sg → Prop) : Prop := Ci Mx_bit [.int x0] g Q
set_option maxRecDepth 20000 in
theorem Vx_bit {x0 : Int32} {g : Sg} {Q : Int32 → Sg → Prop} (h : Q (sb x0) g) : Cx_bit x0 g Q := by
  refine Cl.of 0 pl_X8 rfl ?_
  refine q_iconst (v := 1) (dx D_x_bit 0 rfl) (by decide) ?_
  refine e_iload_n (dx D_x_bit 1 rfl) rfl ?_
  refine e_ishl (dx D_x_bit 2 rfl) ?_
  exact e_iret (dx D_x_bit 3 rfl) rfl rfl ⟨_, rfl, h⟩
theorem Ix_bit {x0 : Int32} {g : Sg} {Q : Int32 → Sg → Prop} (h : Q (sb x0) g) : Cx_bit x0 g Q := by
  refine Vx_bit ?_
  exact h
abbrev Cb_pipesOf (x1 : Int32) (x2 : Int32) (g : Sg) (Q : Int32 → Sg → Prop) : Prop := Ci Mb_pipesOf [.ref 11, .int x1, .int x2] g Q
set_option maxRecDepth 20000 in
theorem Vb_pipesOf {x1 : Int32} {x2 : Int32} {g : Sg} {Q : Int32 → Sg → Prop} (h : (((x2 &&& (sb x1)) = 0 → Q 0 g) ∧ (¬ (x2 &&& (sb x1)) = 0 → vp_in x1 16 ∧ Q (g 15 (x1).toNatClampNeg) g))) : Cb_pipesOf x1 x2 g Q := by
  refine Cl.of 0 pl_X0 rfl ?_
  refine e_iload_n (dx D_b_pipesOf 0 rfl) rfl ?_
  refine q_iconst (v := 1) (dx D_b_pipesOf 1 rfl) (by decide) ?_
  refine e_iload_n (dx D_b_pipesOf 2 rfl) rfl ?_
  refine e_ishl (dx D_b_pipesOf 3 rfl) ?_
  refine e_iand (dx D_b_pipesOf 4 rfl) ?_
  refine e_if_ne (tgt := 12) (dx D_b_pipesOf 5 rfl) (by decide) (fun c => ?_) (fun c => ?_)
  · replace h := h.2 c
    refine e_aload_n (dx D_b_pipesOf 8 rfl) rfl ?_
    refine e_getR (dx D_b_pipesOf 9 rfl) fl_RX0_21 rfl rfl ?_
    refine e_iload_n (dx D_b_pipesOf 10 rfl) rfl ?_
    obtain ⟨hb1, h⟩ := h
    refine e_iald (dx D_b_pipesOf 11 rfl) rfl hb1 ?_
    exact e_iret (dx D_b_pipesOf 12 rfl) rfl rfl ⟨_, rfl, h⟩
  · replace h := h.1 c
    refine q_iconst (v := 0) (dx D_b_pipesOf 6 rfl) (by decide) ?_
    refine e_goto (tgt := 18) (dx D_b_pipesOf 7 rfl) (by decide) ?_
    exact e_iret (dx D_b_pipesOf 12 rfl) rfl rfl ⟨_, rfl, h⟩
theorem Ib_pipesOf {x1 : Int32} {x2 : Int32} {g : Sg} {Q : Int32 → Sg → Prop} (hs1 : vp_in x1 16) (h : Q ((if tbb x2 x1 = true then g 15 (x1).toNatClampNeg else 0)) g) : Cb_pipesOf x1 x2 g Q := by
  refine Vb_pipesOf ?_
  exact lf_pof hs1 h
abbrev Cw_isOpen (x1 : Int32) (g : Sg) (Q : Int32 → Sg → Prop) : Prop := Ci Mw_isOpen [.ref 7, .int x1] g Q
set_option maxRecDepth 20000 in
theorem Vw_isOpen {x1 : Int32} {g : Sg} {Q : Int32 → Sg → Prop} (h : ((((g 1 9) &&& (sb x1)) = 0 → vp_in x1 16 ∧ (((g 1 10) ≤ (g 8 (x1).toNatClampNeg) → Q 0 g) ∧ (¬ (g 1 10) ≤ (g 8 (x1).toNatClampNeg) → Q 1 g))) ∧ (¬ ((g 1 9) &&& (sb x1)) = 0 → Q 0 g))) : Cw_isOpen x1 g Q := by
  refine Cl.of 0 pl_X7 rfl ?_
  refine e_aload_n (dx D_w_isOpen 0 rfl) rfl ?_
  refine e_getR (dx D_w_isOpen 1 rfl) fl_RX7_21 rfl rfl ?_
  refine e_getI (dx D_w_isOpen 2 rfl) fl_RX7_25 rfl rfl ?_
  refine q_iconst (v := 1) (dx D_w_isOpen 3 rfl) (by decide) ?_
  refine e_iload_n (dx D_w_isOpen 4 rfl) rfl ?_
  refine e_ishl (dx D_w_isOpen 5 rfl) ?_
  refine e_iand (dx D_w_isOpen 6 rfl) ?_
  refine e_if_ne (tgt := 34) (dx D_w_isOpen 7 rfl) (by decide) (fun c => ?_) (fun c => ?_)
  · replace h := h.2 c
    refine q_iconst (v := 0) (dx D_w_isOpen 18 rfl) (by decide) ?_
    exact e_iret (dx D_w_isOpen 19 rfl) rfl (by decide) ⟨_, rfl, h⟩
  · replace h := h.1 c
    refine e_aload_n (dx D_w_isOpen 8 rfl) rfl ?_
    refine e_getR (dx D_w_isOpen 9 rfl) fl_RX7_9 rfl rfl ?_
    refine e_iload_n (dx D_w_isOpen 10 rfl) rfl ?_
    obtain ⟨hb1, h⟩ := h
    refine e_iald (dx D_w_isOpen 11 rfl) rfl hb1 ?_
    refine e_aload_n (dx D_w_isOpen 12 rfl) rfl ?_
    refine e_getR (dx D_w_isOpen 13 rfl) fl_RX7_21 rfl rfl ?_
    refine e_getI (dx D_w_isOpen 14 rfl) fl_RX7_31 rfl rfl ?_
    refine e_icmp_ge (tgt := 34) (dx D_w_isOpen 15 rfl) (by decide) (fun c => ?_) (fun c => ?_)
    · replace h := h.1 c
      refine q_iconst (v := 0) (dx D_w_isOpen 18 rfl) (by decide) ?_
      exact e_iret (dx D_w_isOpen 19 rfl) rfl (by decide) ⟨_, rfl, h⟩
    · replace h := h.2 c
      refine q_iconst (v := 1) (dx D_w_isOpen 16 rfl) (by decide) ?_
      refine e_goto (tgt := 35) (dx D_w_isOpen 17 rfl) (by decide) ?_
      exact e_iret (dx D_w_isOpen 19 rfl) rfl (by decide) ⟨_, rfl, h⟩
theorem Iw_isOpen {x1 : Int32} {g : Sg} {Q : Int32 → Sg → Prop} (hs1 : vp_in x1 16) (h : Q (bP (tbb (g 1 9) x1 = false ∧ g 8 (x1).toNatClampNeg < g 1 10)) g) : Cw_isOpen x1 g Q := by
  refine Vw_isOpen ?_
  exact lf_open hs1 h
abbrev Cp_touches (x1 : Int32) (x2 : Int32) (g : Sg) (Q : Int32 → Sg → Prop) : Prop := Ci Mp_touches [.ref 1, .int x1, .int x2] g Q
set_option maxRecDepth 20000 in
theorem Vp_touches {x1 : Int32} {x2 : Int32} {g : Sg} {Q : Int32 → Sg → Prop} (h : vp_in x1 16 ∧ (((g 3 (x1).toNatClampNeg) = x2 → Q 1 g) ∧ (¬ (g 3 (x1).toNatClampNeg) = x2 → vp_in x1 16 ∧ (((g 4 (x1).toNatClampNeg) = x2 → Q 1 g) ∧ (¬ (g 4 (x1).toNatClampNeg) = x2 → Q 0 g))))) : Cp_touches x1 x2 g Q := by
  refine Cl.of 0 pl_X4 rfl ?_
  refine e_aload_n (dx D_p_touches 0 rfl) rfl ?_
  refine e_getR (dx D_p_touches 1 rfl) fl_RX4_15 rfl rfl ?_
  refine e_iload_n (dx D_p_touches 2 rfl) rfl ?_
  obtain ⟨hb1, h⟩ := h
  refine e_iald (dx D_p_touches 3 rfl) rfl hb1 ?_
  refine e_iload_n (dx D_p_touches 4 rfl) rfl ?_
  refine e_icmp_eq (tgt := 20) (dx D_p_touches 5 rfl) (by decide) (fun c => ?_) (fun c => ?_)
  · replace h := h.1 c
    refine q_iconst (v := 1) (dx D_p_touches 12 rfl) (by decide) ?_
    refine e_goto (tgt := 25) (dx D_p_touches 13 rfl) (by decide) ?_
    exact e_iret (dx D_p_touches 15 rfl) rfl (by decide) ⟨_, rfl, h⟩
  · replace h := h.2 c
    refine e_aload_n (dx D_p_touches 6 rfl) rfl ?_
    refine e_getR (dx D_p_touches 7 rfl) fl_RX4_18 rfl rfl ?_
    refine e_iload_n (dx D_p_touches 8 rfl) rfl ?_
    obtain ⟨hb2, h⟩ := h
    refine e_iald (dx D_p_touches 9 rfl) rfl hb2 ?_
    refine e_iload_n (dx D_p_touches 10 rfl) rfl ?_
    refine e_icmp_ne (tgt := 24) (dx D_p_touches 11 rfl) (by decide) (fun c => ?_) (fun c => ?_)
    · replace h := h.2 c
      refine q_iconst (v := 0) (dx D_p_touches 14 rfl) (by decide) ?_
      exact e_iret (dx D_p_touches 15 rfl) rfl (by decide) ⟨_, rfl, h⟩
    · replace h := h.1 c
      refine q_iconst (v := 1) (dx D_p_touches 12 rfl) (by decide) ?_
      refine e_goto (tgt := 25) (dx D_p_touches 13 rfl) (by decide) ?_
      exact e_iret (dx D_p_touches 15 rfl) rfl (by decide) ⟨_, rfl, h⟩
theorem Ip_touches {x1 : Int32} {x2 : Int32} {g : Sg} {Q : Int32 → Sg → Prop} (hs1 : vp_in x1 16) (h : Q (bP (g 3 (x1).toNatClampNeg = x2 ∨ g 4 (x1).toNatClampNeg = x2)) g) : Cp_touches x1 x2 g Q := by
  refine Vp_touches ?_
  exact ⟨hs1, lf_or hs1 h⟩
abbrev Cp_opposite (x1 : Int32) (x2 : Int32) (g : Sg) (Q : Int32 → Sg → Prop) : Prop := Ci Mp_opposite [.ref 1, .int x1, .int x2] g Q
set_option maxRecDepth 20000 in
theorem Vp_opposite {x1 : Int32} {x2 : Int32} {g : Sg} {Q : Int32 → Sg → Prop} (h : vp_in x1 16 ∧ (((g 3 (x1).toNatClampNeg) = x2 → vp_in x1 16 ∧ Q (g 4 (x1).toNatClampNeg) g) ∧ (¬ (g 3 (x1).toNatClampNeg) = x2 → vp_in x1 16 ∧ Q (g 3 (x1).toNatClampNeg) g))) : Cp_opposite x1 x2 g Q := by
  refine Cl.of 0 pl_X4 rfl ?_
  refine e_aload_n (dx D_p_opposite 0 rfl) rfl ?_
  refine e_getR (dx D_p_opposite 1 rfl) fl_RX4_15 rfl rfl ?_
  refine e_iload_n (dx D_p_opposite 2 rfl) rfl ?_
  obtain ⟨hb1, h⟩ := h
  refine e_iald (dx D_p_opposite 3 rfl) rfl hb1 ?_
  refine e_iload_n (dx D_p_opposite 4 rfl) rfl ?_
  refine e_icmp_ne (tgt := 19) (dx D_p_opposite 5 rfl) (by decide) (fun c => ?_) (fun c => ?_)
  · replace h := h.2 c
    refine e_aload_n (dx D_p_opposite 11 rfl) rfl ?_
    refine e_getR (dx D_p_opposite 12 rfl) fl_RX4_15 rfl rfl ?_
    refine e_iload_n (dx D_p_opposite 13 rfl) rfl ?_
    obtain ⟨hb2, h⟩ := h
    refine e_iald (dx D_p_opposite 14 rfl) rfl hb2 ?_
    exact e_iret (dx D_p_opposite 15 rfl) rfl rfl ⟨_, rfl, h⟩
  · replace h := h.1 c
    refine e_aload_n (dx D_p_opposite 6 rfl) rfl ?_
    refine e_getR (dx D_p_opposite 7 rfl) fl_RX4_18 rfl rfl ?_
    refine e_iload_n (dx D_p_opposite 8 rfl) rfl ?_
    obtain ⟨hb3, h⟩ := h
    refine e_iald (dx D_p_opposite 9 rfl) rfl hb3 ?_
    refine e_goto (tgt := 25) (dx D_p_opposite 10 rfl) (by decide) ?_
    exact e_iret (dx D_p_opposite 15 rfl) rfl rfl ⟨_, rfl, h⟩
theorem Ip_opposite {x1 : Int32} {x2 : Int32} {g : Sg} {Q : Int32 → Sg → Prop} (hs1 : vp_in x1 16) (h : Q ((if g 3 (x1).toNatClampNeg = x2 then g 4 (x1).toNatClampNeg else g 3 (x1).toNatClampNeg)) g) : Cp_opposite x1 x2 g Q := by
  refine Vp_opposite ?_
  exact ⟨hs1, fun q => ⟨hs1, by rw [if_pos q] at h; exact h⟩, fun q => ⟨hs1, by rw [if_neg q] at h; exact h⟩⟩
abbrev Cb_lyingNow (g : Sg) (Q : Int32 → Sg → Prop) : Prop := Ci Mb_lyingNow [.ref 11] g Q
set_option maxRecDepth 20000 in
theorem Vb_lyingNow {g : Sg} {Q : Int32 → Sg → Prop} (h : vp_in (g 11 6) 17 ∧ Q (g 14 (g 11 6).toNatClampNeg) g) : Cb_lyingNow g Q := by
  refine Cl.of 0 pl_X0 rfl ?_
  refine e_aload_n (dx D_b_lyingNow 0 rfl) rfl ?_
  refine e_getR (dx D_b_lyingNow 1 rfl) fl_RX0_18 rfl rfl ?_
  refine e_aload_n (dx D_b_lyingNow 2 rfl) rfl ?_
  refine e_getI (dx D_b_lyingNow 3 rfl) fl_RX0_35 rfl rfl ?_
  obtain ⟨hb1, h⟩ := h
  refine e_iald (dx D_b_lyingNow 4 rfl) rfl hb1 ?_
  exact e_iret (dx D_b_lyingNow 5 rfl) rfl rfl ⟨_, rfl, h⟩
theorem Ib_lyingNow {g : Sg} {Q : Int32 → Sg → Prop} (hs1 : vp_in (g 11 6) 17) (h : Q (g 14 (g 11 6).toNatClampNeg) g) : Cb_lyingNow g Q := by
  refine Vb_lyingNow ?_
  exact ⟨hs1, h⟩
abbrev Cb_isDone (x1 : Int32) (g : Sg) (Q : Int32 → Sg → Prop) : Prop := Ci Mb_isDone [.ref 11, .int x1] g Q
set_option maxRecDepth 20000 in
theorem Vb_isDone {x1 : Int32} {g : Sg} {Q : Int32 → Sg → Prop} (h : vp_in (x1 + 1) 17 ∧ vp_in x1 17 ∧ (((g 14 (x1 + 1).toNatClampNeg) = (g 14 (x1).toNatClampNeg) → Q 0 g) ∧ (¬ (g 14 (x1 + 1).toNatClampNeg) = (g 14 (x1).toNatClampNeg) → Q 1 g))) : Cb_isDone x1 g Q := by
  refine Cl.of 0 pl_X0 rfl ?_
  refine e_aload_n (dx D_b_isDone 0 rfl) rfl ?_
  refine e_getR (dx D_b_isDone 1 rfl) fl_RX0_18 rfl rfl ?_
  refine e_iload_n (dx D_b_isDone 2 rfl) rfl ?_
  refine q_iconst (v := 1) (dx D_b_isDone 3 rfl) (by decide) ?_
  refine e_iadd (dx D_b_isDone 4 rfl) ?_
  obtain ⟨hb1, h⟩ := h
  refine e_iald (dx D_b_isDone 5 rfl) rfl hb1 ?_
  refine e_aload_n (dx D_b_isDone 6 rfl) rfl ?_
  refine e_getR (dx D_b_isDone 7 rfl) fl_RX0_18 rfl rfl ?_
  refine e_iload_n (dx D_b_isDone 8 rfl) rfl ?_
  obtain ⟨hb2, h⟩ := h
  refine e_iald (dx D_b_isDone 9 rfl) rfl hb2 ?_
  refine e_icmp_eq (tgt := 21) (dx D_b_isDone 10 rfl) (by decide) (fun c => ?_) (fun c => ?_)
  · replace h := h.1 c
    refine q_iconst (v := 0) (dx D_b_isDone 13 rfl) (by decide) ?_
    exact e_iret (dx D_b_isDone 14 rfl) rfl (by decide) ⟨_, rfl, h⟩
  · replace h := h.2 c
    refine q_iconst (v := 1) (dx D_b_isDone 11 rfl) (by decide) ?_
    refine e_goto (tgt := 22) (dx D_b_isDone 12 rfl) (by decide) ?_
    exact e_iret (dx D_b_isDone 14 rfl) rfl (by decide) ⟨_, rfl, h⟩
theorem Ib_isDone {x1 : Int32} {g : Sg} {Q : Int32 → Sg → Prop} (hs1 : vp_in (x1 + 1) 17) (hs2 : vp_in x1 17) (h : Q (bP (¬ g 14 (x1 + 1).toNatClampNeg = g 14 (x1).toNatClampNeg)) g) : Cb_isDone x1 g Q := by
  refine Vb_isDone ?_
  exact ⟨hs1, hs2, lf_ifn h⟩
abbrev Cb_endsOf (x1 : Int32) (g : Sg) (Q : Int32 → Sg → Prop) : Prop := Ci Mb_endsOf [.ref 11, .int x1] g Q
set_option maxRecDepth 20000 in
theorem Vb_endsOf {x1 : Int32} {g : Sg} {Q : Int32 → Sg → Prop} (h : vp_in x1 16 ∧ vp_in x1 16 ∧ Q ((sb (g 12 (x1).toNatClampNeg)) ||| (sb (g 13 (x1).toNatClampNeg))) g) : Cb_endsOf x1 g Q := by
  refine Cl.of 0 pl_X0 rfl ?_
  refine e_aload_n (dx D_b_endsOf 0 rfl) rfl ?_
  refine e_getR (dx D_b_endsOf 1 rfl) fl_RX0_9 rfl rfl ?_
  refine e_iload_n (dx D_b_endsOf 2 rfl) rfl ?_
  obtain ⟨hb1, h⟩ := h
  refine e_iald (dx D_b_endsOf 3 rfl) rfl hb1 ?_
  refine e_callSNi (Q1 := fun r g' => (sb (g 12 (x1).toNatClampNeg)) = r ∧ g = g') (rest := []) [.int (g 12 (x1).toNatClampNeg)] (dx D_b_endsOf 4 rfl) ln_b_endsOf_62 rfl rfl (Nat.le_of_ble_eq_true rfl) (Ix_bit  ⟨rfl, rfl⟩) (fun r g' hh => ?_)
  obtain ⟨rfl, rfl⟩ := hh
  refine e_aload_n (dx D_b_endsOf 5 rfl) rfl ?_
  refine e_getR (dx D_b_endsOf 6 rfl) fl_RX0_15 rfl rfl ?_
  refine e_iload_n (dx D_b_endsOf 7 rfl) rfl ?_
  obtain ⟨hb2, h⟩ := h
  refine e_iald (dx D_b_endsOf 8 rfl) rfl hb2 ?_
  refine e_callSNi (Q1 := fun r g' => (sb (g 13 (x1).toNatClampNeg)) = r ∧ g = g') (rest := [.int (sb (g 12 (x1).toNatClampNeg))]) [.int (g 13 (x1).toNatClampNeg)] (dx D_b_endsOf 9 rfl) ln_b_endsOf_62 rfl rfl (Nat.le_of_ble_eq_true rfl) (Ix_bit  ⟨rfl, rfl⟩) (fun r g' hh => ?_)
  obtain ⟨rfl, rfl⟩ := hh
  refine e_ior (dx D_b_endsOf 10 rfl) ?_
  exact e_iret (dx D_b_endsOf 11 rfl) rfl rfl ⟨_, rfl, h⟩
theorem Ib_endsOf {x1 : Int32} {g : Sg} {Q : Int32 → Sg → Prop} (hs1 : vp_in x1 16) (h : Q (sb (g 12 (x1).toNatClampNeg) ||| sb (g 13 (x1).toNatClampNeg)) g) : Cb_endsOf x1 g Q := by
  refine Vb_endsOf ?_
  exact ⟨hs1, hs1, h⟩
abbrev Cp_isShut (x1 : Int32) (g : Sg) (Q : Int32 → Sg → Prop) : Prop := Ci Mp_isShut [.ref 1, .int x1] g Q
set_option maxRecDepth 20000 in
theorem Vp_isShut {x1 : Int32} {g : Sg} {Q : Int32 → Sg → Prop} (h : ((((g 1 9) &&& (sb x1)) = 0 → Q 0 g) ∧ (¬ ((g 1 9) &&& (sb x1)) = 0 → Q 1 g))) : Cp_isShut x1 g Q := by
  refine Cl.of 0 pl_X4 rfl ?_
  refine e_aload_n (dx D_p_isShut 0 rfl) rfl ?_
  refine e_getI (dx D_p_isShut 1 rfl) fl_RX4_64 rfl rfl ?_
  refine q_iconst (v := 1) (dx D_p_isShut 2 rfl) (by decide) ?_
  refine e_iload_n (dx D_p_isShut 3 rfl) rfl ?_
  refine e_ishl (dx D_p_isShut 4 rfl) ?_
  refine e_iand (dx D_p_isShut 5 rfl) ?_
  refine e_if_eq (tgt := 15) (dx D_p_isShut 6 rfl) (by decide) (fun c => ?_) (fun c => ?_)
  · replace h := h.1 c
    refine q_iconst (v := 0) (dx D_p_isShut 9 rfl) (by decide) ?_
    exact e_iret (dx D_p_isShut 10 rfl) rfl (by decide) ⟨_, rfl, h⟩
  · replace h := h.2 c
    refine q_iconst (v := 1) (dx D_p_isShut 7 rfl) (by decide) ?_
    refine e_goto (tgt := 16) (dx D_p_isShut 8 rfl) (by decide) ?_
    exact e_iret (dx D_p_isShut 10 rfl) rfl (by decide) ⟨_, rfl, h⟩
theorem Ip_isShut {x1 : Int32} {g : Sg} {Q : Int32 → Sg → Prop} (h : Q (bP (tbb (g 1 9) x1 = true)) g) : Cp_isShut x1 g Q := by
  refine Vp_isShut ?_
  exact lf_hasBit h
abbrev Cl_holdsAll (x0 : Int32) (x1 : Int32) (g : Sg) (Q : Int32 → Sg → Prop) : Prop := Ci Ml_holdsAll [.int x0, .int x1] g Q
set_option maxRecDepth 20000 in
theorem Vl_holdsAll {x0 : Int32} {x1 : Int32} {g : Sg} {Q : Int32 → Sg → Prop} (h : (((x1 &&& (x0 ^^^ (-1))) = 0 → Q 1 g) ∧ (¬ (x1 &&& (x0 ^^^ (-1))) = 0 → Q 0 g))) : Cl_holdsAll x0 x1 g Q := by
  refine Cl.of 0 pl_X3 rfl ?_
  refine e_iload_n (dx D_l_holdsAll 0 rfl) rfl ?_
  refine e_iload_n (dx D_l_holdsAll 1 rfl) rfl ?_
  refine q_iconst (v := (-1)) (dx D_l_holdsAll 2 rfl) (by decide) ?_
  refine e_ixor (dx D_l_holdsAll 3 rfl) ?_
  refine e_iand (dx D_l_holdsAll 4 rfl) ?_
  refine e_if_ne (tgt := 12) (dx D_l_holdsAll 5 rfl) (by decide) (fun c => ?_) (fun c => ?_)
  · replace h := h.2 c
    refine q_iconst (v := 0) (dx D_l_holdsAll 8 rfl) (by decide) ?_
    exact e_iret (dx D_l_holdsAll 9 rfl) rfl (by decide) ⟨_, rfl, h⟩
  · replace h := h.1 c
    refine q_iconst (v := 1) (dx D_l_holdsAll 6 rfl) (by decide) ?_
    refine e_goto (tgt := 13) (dx D_l_holdsAll 7 rfl) (by decide) ?_
    exact e_iret (dx D_l_holdsAll 9 rfl) rfl (by decide) ⟨_, rfl, h⟩
theorem Il_holdsAll {x0 : Int32} {x1 : Int32} {g : Sg} {Q : Int32 → Sg → Prop} (h : Q (bP ((x1 &&& (x0 ^^^ (-1))) = 0)) g) : Cl_holdsAll x0 x1 g Q := by
  refine Vl_holdsAll ?_
  exact lf_if h
abbrev Cx_within (x0 : Int32) (x1 : Int32) (x2 : Int32) (g : Sg) (Q : Int32 → Sg → Prop) : Prop := Ci Mx_within [.int x0, .int x1, .int x2] g Q
set_option maxRecDepth 20000 in
theorem Vx_within {x0 : Int32} {x1 : Int32} {x2 : Int32} {g : Sg} {Q : Int32 → Sg → Prop} (h : ((x0 < x1 → Q 0 g) ∧ (¬ x0 < x1 → ((x2 < x0 → Q 0 g) ∧ (¬ x2 < x0 → Q 1 g))))) : Cx_within x0 x1 x2 g Q := by
  refine Cl.of 0 pl_X8 rfl ?_
  refine e_iload_n (dx D_x_within 0 rfl) rfl ?_
  refine e_iload_n (dx D_x_within 1 rfl) rfl ?_
  refine e_icmp_lt (tgt := 14) (dx D_x_within 2 rfl) (by decide) (fun c => ?_) (fun c => ?_)
  · replace h := h.1 c
    refine q_iconst (v := 0) (dx D_x_within 8 rfl) (by decide) ?_
    exact e_iret (dx D_x_within 9 rfl) rfl (by decide) ⟨_, rfl, h⟩
  · replace h := h.2 c
    refine e_iload_n (dx D_x_within 3 rfl) rfl ?_
    refine e_iload_n (dx D_x_within 4 rfl) rfl ?_
    refine e_icmp_gt (tgt := 14) (dx D_x_within 5 rfl) (by decide) (fun c => ?_) (fun c => ?_)
    · replace h := h.1 c
      refine q_iconst (v := 0) (dx D_x_within 8 rfl) (by decide) ?_
      exact e_iret (dx D_x_within 9 rfl) rfl (by decide) ⟨_, rfl, h⟩
    · replace h := h.2 c
      refine q_iconst (v := 1) (dx D_x_within 6 rfl) (by decide) ?_
      refine e_goto (tgt := 15) (dx D_x_within 7 rfl) (by decide) ?_
      exact e_iret (dx D_x_within 9 rfl) rfl (by decide) ⟨_, rfl, h⟩
theorem Ix_within {x0 : Int32} {x1 : Int32} {x2 : Int32} {g : Sg} {Q : Int32 → Sg → Prop} (h : Q (bP (x1 ≤ x0 ∧ x0 ≤ x2)) g) : Cx_within x0 x1 x2 g Q := by
  refine Vx_within ?_
  exact lf_within h
abbrev Cp_hasPipe (x1 : Int32) (g : Sg) (Q : Int32 → Sg → Prop) : Prop := Ci Mp_hasPipe [.ref 1, .int x1] g Q
set_option maxRecDepth 20000 in
theorem Vp_hasPipe {x1 : Int32} {g : Sg} {Q : Int32 → Sg → Prop} (h : bP (0 ≤ x1 ∧ x1 ≤ ((g 1 8) - 1)) &&& 1 = bP (0 ≤ x1 ∧ x1 ≤ ((g 1 8) - 1)) ∧ Q (bP (0 ≤ x1 ∧ x1 ≤ ((g 1 8) - 1))) g) : Cp_hasPipe x1 g Q := by
  refine Cl.of 0 pl_X4 rfl ?_
  refine e_iload_n (dx D_p_hasPipe 0 rfl) rfl ?_
  refine q_iconst (v := 0) (dx D_p_hasPipe 1 rfl) (by decide) ?_
  refine e_aload_n (dx D_p_hasPipe 2 rfl) rfl ?_
  refine e_getI (dx D_p_hasPipe 3 rfl) fl_RX4_61 rfl rfl ?_
  refine q_iconst (v := 1) (dx D_p_hasPipe 4 rfl) (by decide) ?_
  refine e_isub (dx D_p_hasPipe 5 rfl) ?_
  refine e_callSNi (Q1 := fun r g' => bP (0 ≤ x1 ∧ x1 ≤ ((g 1 8) - 1)) = r ∧ g = g') (rest := []) [.int x1, .int 0, .int ((g 1 8) - 1)] (dx D_p_hasPipe 6 rfl) ln_p_hasPipe_57 rfl rfl (Nat.le_of_ble_eq_true rfl) (Ix_within  ⟨rfl, rfl⟩) (fun r g' hh => ?_)
  obtain ⟨rfl, rfl⟩ := hh
  obtain ⟨hb1, h⟩ := h
  exact e_iret (dx D_p_hasPipe 7 rfl) rfl (nb1 hb1) ⟨_, rfl, h⟩
theorem Ip_hasPipe {x1 : Int32} {g : Sg} {Q : Int32 → Sg → Prop} (h : Q (bP (0 ≤ x1 ∧ x1 ≤ g 1 8 - 1)) g) : Cp_hasPipe x1 g Q := by
  refine Vp_hasPipe ?_
  exact ⟨bP_1 _, h⟩
abbrev Cr_isChoice (x1 : Int32) (x2 : Int32) (g : Sg) (Q : Int32 → Sg → Prop) : Prop := Ci Mr_isChoice [.ref 22, .int x1, .int x2] g Q
set_option maxRecDepth 20000 in
theorem Vr_isChoice {x1 : Int32} {x2 : Int32} {g : Sg} {Q : Int32 → Sg → Prop} (h : (((tbb (g 1 9) x1 = true) → Q 0 g) ∧ (¬ (tbb (g 1 9) x1 = true) → vp_in x1 16 ∧ (((g 3 (x1).toNatClampNeg = x2 ∨ g 4 (x1).toNatClampNeg = x2) → Q 1 g) ∧ (¬ (g 3 (x1).toNatClampNeg = x2 ∨ g 4 (x1).toNatClampNeg = x2) → Q 0 g))))) : Cr_isChoice x1 x2 g Q := by
  refine Cl.of 0 pl_X5 rfl ?_
  refine e_aload_n (dx D_r_isChoice 0 rfl) rfl ?_
  refine e_getR (dx D_r_isChoice 1 rfl) fl_RX5_21 rfl rfl ?_
  refine e_iload_n (dx D_r_isChoice 2 rfl) rfl ?_
  refine e_callVi (Q1 := fun r g' => bP (tbb (g 1 9) x1 = true) = r ∧ g = g') (rest := []) [.int x1] (dx D_r_isChoice 3 rfl) ln_r_isChoice_40 rfl rfl rfl (Nat.le_of_ble_eq_true rfl) (Ip_isShut  ⟨rfl, rfl⟩) (fun r g' hh => ?_)
  obtain ⟨rfl, rfl⟩ := hh
  refine e_if_ne (tgt := 27) (dx D_r_isChoice 4 rfl) (by decide) (fun c => ?_) (fun c => ?_)
  · replace h := h.1 (bP_n c)
    refine q_iconst (v := 0) (dx D_r_isChoice 13 rfl) (by decide) ?_
    exact e_iret (dx D_r_isChoice 14 rfl) rfl (by decide) ⟨_, rfl, h⟩
  · replace h := h.2 (bP_z c)
    refine e_aload_n (dx D_r_isChoice 5 rfl) rfl ?_
    refine e_getR (dx D_r_isChoice 6 rfl) fl_RX5_21 rfl rfl ?_
    refine e_iload_n (dx D_r_isChoice 7 rfl) rfl ?_
    refine e_iload_n (dx D_r_isChoice 8 rfl) rfl ?_
    obtain ⟨hb1, h⟩ := h
    refine e_callVi (Q1 := fun r g' => bP (g 3 (x1).toNatClampNeg = x2 ∨ g 4 (x1).toNatClampNeg = x2) = r ∧ g = g') (rest := []) [.int x1, .int x2] (dx D_r_isChoice 9 rfl) ln_r_isChoice_69 rfl rfl rfl (Nat.le_of_ble_eq_true rfl) (Ip_touches hb1 ⟨rfl, rfl⟩) (fun r g' hh => ?_)
    obtain ⟨rfl, rfl⟩ := hh
    refine e_if_eq (tgt := 27) (dx D_r_isChoice 10 rfl) (by decide) (fun c => ?_) (fun c => ?_)
    · replace h := h.2 (bP_z c)
      refine q_iconst (v := 0) (dx D_r_isChoice 13 rfl) (by decide) ?_
      exact e_iret (dx D_r_isChoice 14 rfl) rfl (by decide) ⟨_, rfl, h⟩
    · replace h := h.1 (bP_n c)
      refine q_iconst (v := 1) (dx D_r_isChoice 11 rfl) (by decide) ?_
      refine e_goto (tgt := 28) (dx D_r_isChoice 12 rfl) (by decide) ?_
      exact e_iret (dx D_r_isChoice 14 rfl) rfl (by decide) ⟨_, rfl, h⟩
theorem Ir_isChoice {x1 : Int32} {x2 : Int32} {g : Sg} {Q : Int32 → Sg → Prop} (hs1 : vp_in x1 16) (h : Q (bP (tbb (g 1 9) x1 = false ∧ (g 3 (x1).toNatClampNeg = x2 ∨ g 4 (x1).toNatClampNeg = x2))) g) : Cr_isChoice x1 x2 g Q := by
  refine Vr_isChoice ?_
  exact lf_choice hs1 h
abbrev Cs_found (x1 : Int32) (g : Sg) (Q : Int32 → Sg → Prop) : Prop := Ci Ms_found [.ref 30, .int x1] g Q
set_option maxRecDepth 20000 in
theorem Vs_found {x1 : Int32} {g : Sg} {Q : Int32 → Sg → Prop} (h : Q ((-10) - x1) (sgU g 30 3 x1)) : Cs_found x1 g Q := by
  refine Cl.of 0 pl_X6 rfl ?_
  refine e_aload_n (dx D_s_found 0 rfl) rfl ?_
  refine e_iload_n (dx D_s_found 1 rfl) rfl ?_
  refine e_putI (dx D_s_found 2 rfl) fp_RX6_27 rfl rfl ?_
  refine q_bipush (v := (-10)) (dx D_s_found 3 rfl) (by decide) ?_
  refine e_iload_n (dx D_s_found 4 rfl) rfl ?_
  refine e_isub (dx D_s_found 5 rfl) ?_
  exact e_iret (dx D_s_found 6 rfl) rfl rfl ⟨_, rfl, h⟩
theorem Is_found {x1 : Int32} {g : Sg} {Q : Int32 → Sg → Prop} (h : Q ((-10) - x1) (sgU g 30 3 x1)) : Cs_found x1 g Q := by
  refine Vs_found ?_
  exact h
abbrev Cs_hasSheet (x1 : Int32) (g : Sg) (Q : Int32 → Sg → Prop) : Prop := Ci Ms_hasSheet [.ref 30, .int x1] g Q
set_option maxRecDepth 20000 in
theorem Vs_hasSheet {x1 : Int32} {g : Sg} {Q : Int32 → Sg → Prop} (h : bP (0 ≤ x1 ∧ x1 ≤ 3) &&& 1 = bP (0 ≤ x1 ∧ x1 ≤ 3) ∧ Q (bP (0 ≤ x1 ∧ x1 ≤ 3)) g) : Cs_hasSheet x1 g Q := by
  refine Cl.of 0 pl_X6 rfl ?_
  refine e_iload_n (dx D_s_hasSheet 0 rfl) rfl ?_
  refine q_iconst (v := 0) (dx D_s_hasSheet 1 rfl) (by decide) ?_
  refine q_iconst (v := 3) (dx D_s_hasSheet 2 rfl) (by decide) ?_
  refine e_callSNi (Q1 := fun r g' => bP (0 ≤ x1 ∧ x1 ≤ 3) = r ∧ g = g') (rest := []) [.int x1, .int 0, .int 3] (dx D_s_hasSheet 3 rfl) ln_s_hasSheet_31 rfl rfl (Nat.le_of_ble_eq_true rfl) (Ix_within  ⟨rfl, rfl⟩) (fun r g' hh => ?_)
  obtain ⟨rfl, rfl⟩ := hh
  obtain ⟨hb1, h⟩ := h
  exact e_iret (dx D_s_hasSheet 4 rfl) rfl (nb1 hb1) ⟨_, rfl, h⟩
theorem Is_hasSheet {x1 : Int32} {g : Sg} {Q : Int32 → Sg → Prop} (h : Q (bP (isS x1)) g) : Cs_hasSheet x1 g Q := by
  refine Vs_hasSheet ?_
  exact ⟨bP_1 _, h⟩
abbrev Cs_isForm (x1 : Int32) (g : Sg) (Q : Int32 → Sg → Prop) : Prop := Ci Ms_isForm [.ref 30, .int x1] g Q
set_option maxRecDepth 20000 in
theorem Vs_isForm {x1 : Int32} {g : Sg} {Q : Int32 → Sg → Prop} (h : bP (0 ≤ x1 ∧ x1 ≤ 2) &&& 1 = bP (0 ≤ x1 ∧ x1 ≤ 2) ∧ Q (bP (0 ≤ x1 ∧ x1 ≤ 2)) g) : Cs_isForm x1 g Q := by
  refine Cl.of 0 pl_X6 rfl ?_
  refine e_iload_n (dx D_s_isForm 0 rfl) rfl ?_
  refine q_iconst (v := 0) (dx D_s_isForm 1 rfl) (by decide) ?_
  refine q_iconst (v := 2) (dx D_s_isForm 2 rfl) (by decide) ?_
  refine e_callSNi (Q1 := fun r g' => bP (0 ≤ x1 ∧ x1 ≤ 2) = r ∧ g = g') (rest := []) [.int x1, .int 0, .int 2] (dx D_s_isForm 3 rfl) ln_s_isForm_31 rfl rfl (Nat.le_of_ble_eq_true rfl) (Ix_within  ⟨rfl, rfl⟩) (fun r g' hh => ?_)
  obtain ⟨rfl, rfl⟩ := hh
  obtain ⟨hb1, h⟩ := h
  exact e_iret (dx D_s_isForm 4 rfl) rfl (nb1 hb1) ⟨_, rfl, h⟩
theorem Is_isForm {x1 : Int32} {g : Sg} {Q : Int32 → Sg → Prop} (h : Q (bP (isF x1)) g) : Cs_isForm x1 g Q := by
  refine Vs_isForm ?_
  exact ⟨bP_1 _, h⟩
abbrev Cs_isLost (x1 : Int32) (g : Sg) (Q : Int32 → Sg → Prop) : Prop := Ci Ms_isLost [.ref 30, .int x1] g Q
set_option maxRecDepth 20000 in
theorem Vs_isLost {x1 : Int32} {g : Sg} {Q : Int32 → Sg → Prop} (h : vp_in x1 4 ∧ (((g 32 (x1).toNatClampNeg) = (-1) → Q 1 g) ∧ (¬ (g 32 (x1).toNatClampNeg) = (-1) → Q 0 g))) : Cs_isLost x1 g Q := by
  refine Cl.of 0 pl_X6 rfl ?_
  refine e_aload_n (dx D_s_isLost 0 rfl) rfl ?_
  refine e_getR (dx D_s_isLost 1 rfl) fl_RX6_15 rfl rfl ?_
  refine e_iload_n (dx D_s_isLost 2 rfl) rfl ?_
  obtain ⟨hb1, h⟩ := h
  refine e_iald (dx D_s_isLost 3 rfl) rfl hb1 ?_
  refine q_iconst (v := (-1)) (dx D_s_isLost 4 rfl) (by decide) ?_
  refine e_icmp_ne (tgt := 14) (dx D_s_isLost 5 rfl) (by decide) (fun c => ?_) (fun c => ?_)
  · replace h := h.2 c
    refine q_iconst (v := 0) (dx D_s_isLost 8 rfl) (by decide) ?_
    exact e_iret (dx D_s_isLost 9 rfl) rfl (by decide) ⟨_, rfl, h⟩
  · replace h := h.1 c
    refine q_iconst (v := 1) (dx D_s_isLost 6 rfl) (by decide) ?_
    refine e_goto (tgt := 15) (dx D_s_isLost 7 rfl) (by decide) ?_
    exact e_iret (dx D_s_isLost 9 rfl) rfl (by decide) ⟨_, rfl, h⟩
theorem Is_isLost {x1 : Int32} {g : Sg} {Q : Int32 → Sg → Prop} (hs1 : vp_in x1 4) (h : Q (bP (g 32 (x1).toNatClampNeg = (-1))) g) : Cs_isLost x1 g Q := by
  refine Vs_isLost ?_
  exact ⟨hs1, lf_if h⟩
abbrev Cs_item (x1 : Int32) (x2 : Int32) (g : Sg) (Q : Int32 → Sg → Prop) : Prop := Ci Ms_item [.ref 30, .int x1, .int x2] g Q
set_option maxRecDepth 20000 in
theorem Vs_item {x1 : Int32} {x2 : Int32} {g : Sg} {Q : Int32 → Sg → Prop} (h : vp_in ((x1 * 60) + x2) 240 ∧ Q (g 31 ((x1 * 60) + x2).toNatClampNeg) g) : Cs_item x1 x2 g Q := by
  refine Cl.of 0 pl_X6 rfl ?_
  refine e_aload_n (dx D_s_item 0 rfl) rfl ?_
  refine e_getR (dx D_s_item 1 rfl) fl_RX6_9 rfl rfl ?_
  refine e_iload_n (dx D_s_item 2 rfl) rfl ?_
  refine q_bipush (v := 60) (dx D_s_item 3 rfl) (by decide) ?_
  refine e_imul (dx D_s_item 4 rfl) ?_
  refine e_iload_n (dx D_s_item 5 rfl) rfl ?_
  refine e_iadd (dx D_s_item 6 rfl) ?_
  obtain ⟨hb1, h⟩ := h
  refine e_iald (dx D_s_item 7 rfl) rfl hb1 ?_
  exact e_iret (dx D_s_item 8 rfl) rfl rfl ⟨_, rfl, h⟩
theorem Is_item {x1 : Int32} {x2 : Int32} {g : Sg} {Q : Int32 → Sg → Prop} (hs1 : vp_in (x1 * 60 + x2) 240) (h : Q (g 31 (x1 * 60 + x2).toNatClampNeg) g) : Cs_item x1 x2 g Q := by
  refine Vs_item ?_
  exact ⟨hs1, h⟩
abbrev Cs_narrowed (x0 : Int32) (x1 : Int32) (g : Sg) (Q : Int32 → Sg → Prop) : Prop := Ci Ms_narrowed [.int x0, .int x1] g Q
set_option maxRecDepth 20000 in
theorem Vs_narrowed {x0 : Int32} {x1 : Int32} {g : Sg} {Q : Int32 → Sg → Prop} (h : ((x0 = 0 → Q ((Int32.toInt8 x1).toInt32) g) ∧ (¬ x0 = 0 → ((x0 = 1 → Q ((Int32.toInt16 x1).toInt32) g) ∧ (¬ x0 = 1 → Q x1 g))))) : Cs_narrowed x0 x1 g Q := by
  refine Cl.of 0 pl_X6 rfl ?_
  refine e_iload_n (dx D_s_narrowed 0 rfl) rfl ?_
  refine e_if_ne (tgt := 7) (dx D_s_narrowed 1 rfl) (by decide) (fun c => ?_) (fun c => ?_)
  · replace h := h.2 c
    refine e_iload_n (dx D_s_narrowed 5 rfl) rfl ?_
    refine q_iconst (v := 1) (dx D_s_narrowed 6 rfl) (by decide) ?_
    refine e_icmp_ne (tgt := 17) (dx D_s_narrowed 7 rfl) (by decide) (fun c => ?_) (fun c => ?_)
    · replace h := h.2 c
      refine e_iload_n (dx D_s_narrowed 11 rfl) rfl ?_
      exact e_iret (dx D_s_narrowed 12 rfl) rfl rfl ⟨_, rfl, h⟩
    · replace h := h.1 c
      refine e_iload_n (dx D_s_narrowed 8 rfl) rfl ?_
      refine e_i2s (dx D_s_narrowed 9 rfl) ?_
      refine e_goto (tgt := 18) (dx D_s_narrowed 10 rfl) (by decide) ?_
      exact e_iret (dx D_s_narrowed 12 rfl) rfl rfl ⟨_, rfl, h⟩
  · replace h := h.1 c
    refine e_iload_n (dx D_s_narrowed 2 rfl) rfl ?_
    refine e_i2b (dx D_s_narrowed 3 rfl) ?_
    exact e_iret (dx D_s_narrowed 4 rfl) rfl rfl ⟨_, rfl, h⟩
theorem Is_narrowed {x0 : Int32} {x1 : Int32} {g : Sg} {Q : Int32 → Sg → Prop} (h : Q (nrw x0 x1) g) : Cs_narrowed x0 x1 g Q := by
  refine Vs_narrowed ?_
  exact lf_nrw h
abbrev Cx_isEnd (x0 : Int32) (g : Sg) (Q : Int32 → Sg → Prop) : Prop := Ci Mx_isEnd [.int x0] g Q
set_option maxRecDepth 20000 in
theorem Vx_isEnd {x0 : Int32} {g : Sg} {Q : Int32 → Sg → Prop} (h : bP (0 ≤ x0 ∧ x0 ≤ 7) &&& 1 = bP (0 ≤ x0 ∧ x0 ≤ 7) ∧ Q (bP (0 ≤ x0 ∧ x0 ≤ 7)) g) : Cx_isEnd x0 g Q := by
  refine Cl.of 0 pl_X8 rfl ?_
  refine e_iload_n (dx D_x_isEnd 0 rfl) rfl ?_
  refine q_iconst (v := 0) (dx D_x_isEnd 1 rfl) (by decide) ?_
  refine q_bipush (v := 7) (dx D_x_isEnd 2 rfl) (by decide) ?_
  refine e_callSi (Q1 := fun r g' => bP (0 ≤ x0 ∧ x0 ≤ 7) = r ∧ g = g') (rest := []) [.int x0, .int 0, .int 7] (dx D_x_isEnd 3 rfl) ln_x_isEnd_75 rfl rfl (Nat.le_of_ble_eq_true rfl) (Ix_within  ⟨rfl, rfl⟩) (fun r g' hh => ?_)
  obtain ⟨rfl, rfl⟩ := hh
  obtain ⟨hb1, h⟩ := h
  exact e_iret (dx D_x_isEnd 4 rfl) rfl (nb1 hb1) ⟨_, rfl, h⟩
theorem Ix_isEnd {x0 : Int32} {g : Sg} {Q : Int32 → Sg → Prop} (h : Q (bP (isE x0)) g) : Cx_isEnd x0 g Q := by
  refine Vx_isEnd ?_
  exact ⟨bP_1 _, h⟩
abbrev Cx_areTwoEnds (x0 : Int32) (x1 : Int32) (g : Sg) (Q : Int32 → Sg → Prop) : Prop := Ci Mx_areTwoEnds [.int x0, .int x1] g Q
set_option maxRecDepth 20000 in
theorem Vx_areTwoEnds {x0 : Int32} {x1 : Int32} {g : Sg} {Q : Int32 → Sg → Prop} (h : (((isE x0) → (((isE x1) → ((x0 = x1 → Q 0 g) ∧ (¬ x0 = x1 → Q 1 g))) ∧ (¬ (isE x1) → Q 0 g))) ∧ (¬ (isE x0) → Q 0 g))) : Cx_areTwoEnds x0 x1 g Q := by
  refine Cl.of 0 pl_X8 rfl ?_
  refine e_iload_n (dx D_x_areTwoEnds 0 rfl) rfl ?_
  refine e_callSi (Q1 := fun r g' => bP (isE x0) = r ∧ g = g') (rest := []) [.int x0] (dx D_x_areTwoEnds 1 rfl) ln_x_areTwoEnds_232 rfl rfl (Nat.le_of_ble_eq_true rfl) (Ix_isEnd  ⟨rfl, rfl⟩) (fun r g' hh => ?_)
  obtain ⟨rfl, rfl⟩ := hh
  refine e_if_eq (tgt := 23) (dx D_x_areTwoEnds 2 rfl) (by decide) (fun c => ?_) (fun c => ?_)
  · replace h := h.2 (bP_z c)
    refine q_iconst (v := 0) (dx D_x_areTwoEnds 11 rfl) (by decide) ?_
    exact e_iret (dx D_x_areTwoEnds 12 rfl) rfl (by decide) ⟨_, rfl, h⟩
  · replace h := h.1 (bP_n c)
    refine e_iload_n (dx D_x_areTwoEnds 3 rfl) rfl ?_
    refine e_callSi (Q1 := fun r g' => bP (isE x1) = r ∧ g = g') (rest := []) [.int x1] (dx D_x_areTwoEnds 4 rfl) ln_x_areTwoEnds_232 rfl rfl (Nat.le_of_ble_eq_true rfl) (Ix_isEnd  ⟨rfl, rfl⟩) (fun r g' hh => ?_)
    obtain ⟨rfl, rfl⟩ := hh
    refine e_if_eq (tgt := 23) (dx D_x_areTwoEnds 5 rfl) (by decide) (fun c => ?_) (fun c => ?_)
    · replace h := h.2 (bP_z c)
      refine q_iconst (v := 0) (dx D_x_areTwoEnds 11 rfl) (by decide) ?_
      exact e_iret (dx D_x_areTwoEnds 12 rfl) rfl (by decide) ⟨_, rfl, h⟩
    · replace h := h.1 (bP_n c)
      refine e_iload_n (dx D_x_areTwoEnds 6 rfl) rfl ?_
      refine e_iload_n (dx D_x_areTwoEnds 7 rfl) rfl ?_
      refine e_icmp_eq (tgt := 23) (dx D_x_areTwoEnds 8 rfl) (by decide) (fun c => ?_) (fun c => ?_)
      · replace h := h.1 c
        refine q_iconst (v := 0) (dx D_x_areTwoEnds 11 rfl) (by decide) ?_
        exact e_iret (dx D_x_areTwoEnds 12 rfl) rfl (by decide) ⟨_, rfl, h⟩
      · replace h := h.2 c
        refine q_iconst (v := 1) (dx D_x_areTwoEnds 9 rfl) (by decide) ?_
        refine e_goto (tgt := 24) (dx D_x_areTwoEnds 10 rfl) (by decide) ?_
        exact e_iret (dx D_x_areTwoEnds 12 rfl) rfl (by decide) ⟨_, rfl, h⟩
theorem Ix_areTwoEnds {x0 : Int32} {x1 : Int32} {g : Sg} {Q : Int32 → Sg → Prop} (h : Q (bP (twoE x0 x1)) g) : Cx_areTwoEnds x0 x1 g Q := by
  refine Vx_areTwoEnds ?_
  exact lf_two h
abbrev Cx_isWire (x0 : Int32) (g : Sg) (Q : Int32 → Sg → Prop) : Prop := Ci Mx_isWire [.int x0] g Q
set_option maxRecDepth 20000 in
theorem Vx_isWire {x0 : Int32} {g : Sg} {Q : Int32 → Sg → Prop} (h : bP (0 ≤ x0 ∧ x0 ≤ 15) &&& 1 = bP (0 ≤ x0 ∧ x0 ≤ 15) ∧ Q (bP (0 ≤ x0 ∧ x0 ≤ 15)) g) : Cx_isWire x0 g Q := by
  refine Cl.of 0 pl_X8 rfl ?_
  refine e_iload_n (dx D_x_isWire 0 rfl) rfl ?_
  refine q_iconst (v := 0) (dx D_x_isWire 1 rfl) (by decide) ?_
  refine q_bipush (v := 15) (dx D_x_isWire 2 rfl) (by decide) ?_
  refine e_callSi (Q1 := fun r g' => bP (0 ≤ x0 ∧ x0 ≤ 15) = r ∧ g = g') (rest := []) [.int x0, .int 0, .int 15] (dx D_x_isWire 3 rfl) ln_x_isWire_75 rfl rfl (Nat.le_of_ble_eq_true rfl) (Ix_within  ⟨rfl, rfl⟩) (fun r g' hh => ?_)
  obtain ⟨rfl, rfl⟩ := hh
  obtain ⟨hb1, h⟩ := h
  exact e_iret (dx D_x_isWire 4 rfl) rfl (nb1 hb1) ⟨_, rfl, h⟩
theorem Ix_isWire {x0 : Int32} {g : Sg} {Q : Int32 → Sg → Prop} (h : Q (bP (isW x0)) g) : Cx_isWire x0 g Q := by
  refine Vx_isWire ?_
  exact ⟨bP_1 _, h⟩
abbrev Cx_isBehind (x1 : Int32) (g : Sg) (Q : Int32 → Sg → Prop) : Prop := Ci Mx_isBehind [.ref 0, .int x1] g Q
set_option maxRecDepth 20000 in
theorem Vx_isBehind {x1 : Int32} {g : Sg} {Q : Int32 → Sg → Prop} (h : bP (0 ≤ x1 ∧ x1 ≤ (g 11 6)) &&& 1 = bP (0 ≤ x1 ∧ x1 ≤ (g 11 6)) ∧ Q (bP (0 ≤ x1 ∧ x1 ≤ (g 11 6))) g) : Cx_isBehind x1 g Q := by
  refine Cl.of 0 pl_X8 rfl ?_
  refine e_iload_n (dx D_x_isBehind 0 rfl) rfl ?_
  refine q_iconst (v := 0) (dx D_x_isBehind 1 rfl) (by decide) ?_
  refine e_aload_n (dx D_x_isBehind 2 rfl) rfl ?_
  refine e_getR (dx D_x_isBehind 3 rfl) fl_RX8_30 rfl rfl ?_
  refine e_getI (dx D_x_isBehind 4 rfl) fl_RX8_153 rfl rfl ?_
  refine e_callSi (Q1 := fun r g' => bP (0 ≤ x1 ∧ x1 ≤ (g 11 6)) = r ∧ g = g') (rest := []) [.int x1, .int 0, .int (g 11 6)] (dx D_x_isBehind 5 rfl) ln_x_isBehind_75 rfl rfl (Nat.le_of_ble_eq_true rfl) (Ix_within  ⟨rfl, rfl⟩) (fun r g' hh => ?_)
  obtain ⟨rfl, rfl⟩ := hh
  obtain ⟨hb1, h⟩ := h
  exact e_iret (dx D_x_isBehind 6 rfl) rfl (nb1 hb1) ⟨_, rfl, h⟩
theorem Ix_isBehind {x1 : Int32} {g : Sg} {Q : Int32 → Sg → Prop} (h : Q (bP (0 ≤ x1 ∧ x1 ≤ g 11 6)) g) : Cx_isBehind x1 g Q := by
  refine Vx_isBehind ?_
  exact ⟨bP_1 _, h⟩
abbrev Cx_mix (x0 : Int64) (x2 : Int32) (g : Sg) (Q : Int64 → Sg → Prop) : Prop := Cj Mx_mix [.long x0, .int x2] g Q
set_option maxRecDepth 20000 in
theorem Vx_mix {x0 : Int64} {x2 : Int32} {g : Sg} {Q : Int64 → Sg → Prop} (h : Q ((31 * x0) + (Int32.toInt64 x2)) g) : Cx_mix x0 x2 g Q := by
  refine Cl.of 0 pl_X8 rfl ?_
  refine e_ldc2 (v := 31) (dx D_x_mix 0 rfl) k918 ?_
  refine e_lload_n (dx D_x_mix 1 rfl) rfl ?_
  refine e_lmul (dx D_x_mix 2 rfl) ?_
  refine e_iload_n (dx D_x_mix 3 rfl) rfl ?_
  refine e_i2l (dx D_x_mix 4 rfl) ?_
  refine e_ladd (dx D_x_mix 5 rfl) ?_
  exact e_lret (dx D_x_mix 6 rfl) rfl ⟨_, rfl, h⟩
theorem Ix_mix {x0 : Int64} {x2 : Int32} {g : Sg} {Q : Int64 → Sg → Prop} (h : Q (31 * x0 + Int32.toInt64 x2) g) : Cx_mix x0 x2 g Q := by
  refine Vx_mix ?_
  exact h
abbrev Cm_in (x0 : Int64) (x2 : Int64) (x4 : Int64) (g : Sg) (Q : Int32 → Sg → Prop) : Prop := Ci Mm_in [.long x0, .long x2, .long x4] g Q
set_option maxRecDepth 20000 in
theorem Vm_in {x0 : Int64} {x2 : Int64} {x4 : Int64} {g : Sg} {Q : Int32 → Sg → Prop} (h : (((lg_cmp x0 x2) < 0 → Q 0 g) ∧ (¬ (lg_cmp x0 x2) < 0 → ((0 < (lg_cmp x0 x4) → Q 0 g) ∧ (¬ 0 < (lg_cmp x0 x4) → Q 1 g))))) : Cm_in x0 x2 x4 g Q := by
  refine Cl.of 0 pl_X9 rfl ?_
  refine e_lload_n (dx D_m_in 0 rfl) rfl ?_
  refine e_lload_n (dx D_m_in 1 rfl) rfl ?_
  refine e_lcmp (dx D_m_in 2 rfl) ?_
  refine e_if_lt (tgt := 17) (dx D_m_in 3 rfl) (by decide) (fun c => ?_) (fun c => ?_)
  · replace h := h.1 c
    refine q_iconst (v := 0) (dx D_m_in 10 rfl) (by decide) ?_
    exact e_iret (dx D_m_in 11 rfl) rfl (by decide) ⟨_, rfl, h⟩
  · replace h := h.2 c
    refine e_lload_n (dx D_m_in 4 rfl) rfl ?_
    refine e_lload (dx D_m_in 5 rfl) rfl ?_
    refine e_lcmp (dx D_m_in 6 rfl) ?_
    refine e_if_gt (tgt := 17) (dx D_m_in 7 rfl) (by decide) (fun c => ?_) (fun c => ?_)
    · replace h := h.1 c
      refine q_iconst (v := 0) (dx D_m_in 10 rfl) (by decide) ?_
      exact e_iret (dx D_m_in 11 rfl) rfl (by decide) ⟨_, rfl, h⟩
    · replace h := h.2 c
      refine q_iconst (v := 1) (dx D_m_in 8 rfl) (by decide) ?_
      refine e_goto (tgt := 18) (dx D_m_in 9 rfl) (by decide) ?_
      exact e_iret (dx D_m_in 11 rfl) rfl (by decide) ⟨_, rfl, h⟩
theorem Im_in {x0 : Int64} {x2 : Int64} {x4 : Int64} {g : Sg} {Q : Int32 → Sg → Prop} (h : Q (bP (x2 ≤ x0 ∧ x0 ≤ x4)) g) : Cm_in x0 x2 x4 g Q := by
  refine Vm_in ?_
  exact lf_in h
abbrev Cm_isTwo (x0 : Int32) (g : Sg) (Q : Int32 → Sg → Prop) : Prop := Ci Mm_isTwo [.int x0] g Q
set_option maxRecDepth 20000 in
theorem Vm_isTwo {x0 : Int32} {g : Sg} {Q : Int32 → Sg → Prop} (h : bP (0 ≤ x0 ∧ x0 ≤ 1) &&& 1 = bP (0 ≤ x0 ∧ x0 ≤ 1) ∧ Q (bP (0 ≤ x0 ∧ x0 ≤ 1)) g) : Cm_isTwo x0 g Q := by
  refine Cl.of 0 pl_X9 rfl ?_
  refine e_iload_n (dx D_m_isTwo 0 rfl) rfl ?_
  refine e_i2l (dx D_m_isTwo 1 rfl) ?_
  refine q_lconst (v := 0) (dx D_m_isTwo 2 rfl) (by decide) ?_
  refine q_lconst (v := 1) (dx D_m_isTwo 3 rfl) (by decide) ?_
  refine e_callSi (Q1 := fun r g' => bP (0 ≤ x0 ∧ x0 ≤ 1) = r ∧ g = g') (rest := []) [.long (Int32.toInt64 x0), .long 0, .long 1] (dx D_m_isTwo 4 rfl) ln_m_isTwo_70 rfl rfl (Nat.le_of_ble_eq_true rfl) (Im_in  ⟨(in32 (a := x0) (b := 0) (c := 1) rfl (by decide) (by decide)).symm, rfl⟩) (fun r g' hh => ?_)
  obtain ⟨rfl, rfl⟩ := hh
  obtain ⟨hb1, h⟩ := h
  exact e_iret (dx D_m_isTwo 5 rfl) rfl (nb1 hb1) ⟨_, rfl, h⟩
theorem Im_isTwo {x0 : Int32} {g : Sg} {Q : Int32 → Sg → Prop} (h : Q (bP (0 ≤ x0 ∧ x0 ≤ 1)) g) : Cm_isTwo x0 g Q := by
  refine Vm_isTwo ?_
  exact ⟨bP_1 _, h⟩
abbrev Cm_isIn (x0 : Int32) (x1 : Int32) (g : Sg) (Q : Int32 → Sg → Prop) : Prop := Ci Mm_isIn [.int x0, .int x1] g Q
set_option maxRecDepth 20000 in
theorem Vm_isIn {x0 : Int32} {x1 : Int32} {g : Sg} {Q : Int32 → Sg → Prop} (h : ((((x0 >>> (x1 &&& 31)) &&& 1) = 1 → Q 1 g) ∧ (¬ ((x0 >>> (x1 &&& 31)) &&& 1) = 1 → Q 0 g))) : Cm_isIn x0 x1 g Q := by
  refine Cl.of 0 pl_X9 rfl ?_
  refine e_iload_n (dx D_m_isIn 0 rfl) rfl ?_
  refine e_iload_n (dx D_m_isIn 1 rfl) rfl ?_
  refine e_ishr (dx D_m_isIn 2 rfl) ?_
  refine q_iconst (v := 1) (dx D_m_isIn 3 rfl) (by decide) ?_
  refine e_iand (dx D_m_isIn 4 rfl) ?_
  refine q_iconst (v := 1) (dx D_m_isIn 5 rfl) (by decide) ?_
  refine e_icmp_ne (tgt := 13) (dx D_m_isIn 6 rfl) (by decide) (fun c => ?_) (fun c => ?_)
  · replace h := h.2 c
    refine q_iconst (v := 0) (dx D_m_isIn 9 rfl) (by decide) ?_
    exact e_iret (dx D_m_isIn 10 rfl) rfl (by decide) ⟨_, rfl, h⟩
  · replace h := h.1 c
    refine q_iconst (v := 1) (dx D_m_isIn 7 rfl) (by decide) ?_
    refine e_goto (tgt := 14) (dx D_m_isIn 8 rfl) (by decide) ?_
    exact e_iret (dx D_m_isIn 10 rfl) rfl (by decide) ⟨_, rfl, h⟩
theorem Im_isIn {x0 : Int32} {x1 : Int32} {g : Sg} {Q : Int32 → Sg → Prop} (h : Q (bP (tbb x0 x1 = true)) g) : Cm_isIn x0 x1 g Q := by
  refine Vm_isIn ?_
  exact lf_isIn h
abbrev Cm_finds (x1 : Int32) (g : Sg) (Q : Int32 → Sg → Prop) : Prop := Ci Mm_finds [.ref 34, .int x1] g Q
set_option maxRecDepth 20000 in
theorem Vm_finds {x1 : Int32} {g : Sg} {Q : Int32 → Sg → Prop} (h : Q ((-10) - x1) (sgU g 34 4 x1)) : Cm_finds x1 g Q := by
  refine Cl.of 0 pl_X9 rfl ?_
  refine e_aload_n (dx D_m_finds 0 rfl) rfl ?_
  refine e_iload_n (dx D_m_finds 1 rfl) rfl ?_
  refine e_putI (dx D_m_finds 2 rfl) fp_RX9_74 rfl rfl ?_
  refine q_bipush (v := (-10)) (dx D_m_finds 3 rfl) (by decide) ?_
  refine e_iload_n (dx D_m_finds 4 rfl) rfl ?_
  refine e_isub (dx D_m_finds 5 rfl) ?_
  exact e_iret (dx D_m_finds 6 rfl) rfl rfl ⟨_, rfl, h⟩
theorem Im_finds {x1 : Int32} {g : Sg} {Q : Int32 → Sg → Prop} (h : Q ((-10) - x1) (sgU g 34 4 x1)) : Cm_finds x1 g Q := by
  refine Vm_finds ?_
  exact h
abbrev Cm_isSheet (x0 : Int32) (g : Sg) (Q : Int32 → Sg → Prop) : Prop := Ci Mm_isSheet [.int x0] g Q
set_option maxRecDepth 20000 in
theorem Vm_isSheet {x0 : Int32} {g : Sg} {Q : Int32 → Sg → Prop} (h : bP (0 ≤ x0 ∧ x0 ≤ 3) &&& 1 = bP (0 ≤ x0 ∧ x0 ≤ 3) ∧ Q (bP (0 ≤ x0 ∧ x0 ≤ 3)) g) : Cm_isSheet x0 g Q := by
  refine Cl.of 0 pl_X9 rfl ?_
  refine e_iload_n (dx D_m_isSheet 0 rfl) rfl ?_
  refine e_i2l (dx D_m_isSheet 1 rfl) ?_
  refine q_lconst (v := 0) (dx D_m_isSheet 2 rfl) (by decide) ?_
  refine e_ldc2 (v := 3) (dx D_m_isSheet 3 rfl) k1052 ?_
  refine e_callSi (Q1 := fun r g' => bP (0 ≤ x0 ∧ x0 ≤ 3) = r ∧ g = g') (rest := []) [.long (Int32.toInt64 x0), .long 0, .long 3] (dx D_m_isSheet 4 rfl) ln_m_isSheet_70 rfl rfl (Nat.le_of_ble_eq_true rfl) (Im_in  ⟨(in32 (a := x0) (b := 0) (c := 3) rfl (by decide) (by decide)).symm, rfl⟩) (fun r g' hh => ?_)
  obtain ⟨rfl, rfl⟩ := hh
  obtain ⟨hb1, h⟩ := h
  exact e_iret (dx D_m_isSheet 5 rfl) rfl (nb1 hb1) ⟨_, rfl, h⟩
theorem Im_isSheet {x0 : Int32} {g : Sg} {Q : Int32 → Sg → Prop} (h : Q (bP (isS x0)) g) : Cm_isSheet x0 g Q := by
  refine Vm_isSheet ?_
  exact ⟨bP_1 _, h⟩
abbrev Cm_cut (x0 : Int32) (x1 : Int32) (g : Sg) (Q : Int32 → Sg → Prop) : Prop := Ci Mm_cut [.int x0, .int x1] g Q
set_option maxRecDepth 20000 in
theorem Vm_cut {x0 : Int32} {x1 : Int32} {g : Sg} {Q : Int32 → Sg → Prop} (h : ((x0 = 0 → Q ((Int32.toInt8 x1).toInt32) g) ∧ (¬ x0 = 0 → ((x0 = 1 → Q ((Int32.toInt16 x1).toInt32) g) ∧ (¬ x0 = 1 → Q x1 g))))) : Cm_cut x0 x1 g Q := by
  refine Cl.of 0 pl_X9 rfl ?_
  refine e_iload_n (dx D_m_cut 0 rfl) rfl ?_
  refine e_if_ne (tgt := 9) (dx D_m_cut 1 rfl) (by decide) (fun c => ?_) (fun c => ?_)
  · replace h := h.2 c
    refine e_iload_n (dx D_m_cut 5 rfl) rfl ?_
    refine q_iconst (v := 1) (dx D_m_cut 6 rfl) (by decide) ?_
    refine e_icmp_ne (tgt := 19) (dx D_m_cut 7 rfl) (by decide) (fun c => ?_) (fun c => ?_)
    · replace h := h.2 c
      refine e_iload_n (dx D_m_cut 11 rfl) rfl ?_
      exact e_iret (dx D_m_cut 12 rfl) rfl rfl ⟨_, rfl, h⟩
    · replace h := h.1 c
      refine e_iload_n (dx D_m_cut 8 rfl) rfl ?_
      refine e_i2s (dx D_m_cut 9 rfl) ?_
      refine e_goto (tgt := 20) (dx D_m_cut 10 rfl) (by decide) ?_
      exact e_iret (dx D_m_cut 12 rfl) rfl rfl ⟨_, rfl, h⟩
  · replace h := h.1 c
    refine e_iload_n (dx D_m_cut 2 rfl) rfl ?_
    refine e_i2b (dx D_m_cut 3 rfl) ?_
    refine e_goto (tgt := 20) (dx D_m_cut 4 rfl) (by decide) ?_
    exact e_iret (dx D_m_cut 12 rfl) rfl rfl ⟨_, rfl, h⟩
theorem Im_cut {x0 : Int32} {x1 : Int32} {g : Sg} {Q : Int32 → Sg → Prop} (h : Q (nrw x0 x1) g) : Cm_cut x0 x1 g Q := by
  refine Vm_cut ?_
  exact lf_nrw h
abbrev Cm_isEnd (x0 : Int32) (g : Sg) (Q : Int32 → Sg → Prop) : Prop := Ci Mm_isEnd [.int x0] g Q
set_option maxRecDepth 20000 in
theorem Vm_isEnd {x0 : Int32} {g : Sg} {Q : Int32 → Sg → Prop} (h : bP (0 ≤ x0 ∧ x0 ≤ 7) &&& 1 = bP (0 ≤ x0 ∧ x0 ≤ 7) ∧ Q (bP (0 ≤ x0 ∧ x0 ≤ 7)) g) : Cm_isEnd x0 g Q := by
  refine Cl.of 0 pl_X9 rfl ?_
  refine e_iload_n (dx D_m_isEnd 0 rfl) rfl ?_
  refine e_i2l (dx D_m_isEnd 1 rfl) ?_
  refine q_lconst (v := 0) (dx D_m_isEnd 2 rfl) (by decide) ?_
  refine e_ldc2 (v := 7) (dx D_m_isEnd 3 rfl) k1106 ?_
  refine e_callSi (Q1 := fun r g' => bP (0 ≤ x0 ∧ x0 ≤ 7) = r ∧ g = g') (rest := []) [.long (Int32.toInt64 x0), .long 0, .long 7] (dx D_m_isEnd 4 rfl) ln_m_isEnd_70 rfl rfl (Nat.le_of_ble_eq_true rfl) (Im_in  ⟨(in32 (a := x0) (b := 0) (c := 7) rfl (by decide) (by decide)).symm, rfl⟩) (fun r g' hh => ?_)
  obtain ⟨rfl, rfl⟩ := hh
  obtain ⟨hb1, h⟩ := h
  exact e_iret (dx D_m_isEnd 5 rfl) rfl (nb1 hb1) ⟨_, rfl, h⟩
theorem Im_isEnd {x0 : Int32} {g : Sg} {Q : Int32 → Sg → Prop} (h : Q (bP (isE x0)) g) : Cm_isEnd x0 g Q := by
  refine Vm_isEnd ?_
  exact ⟨bP_1 _, h⟩
abbrev Cm_isWire (x0 : Int32) (g : Sg) (Q : Int32 → Sg → Prop) : Prop := Ci Mm_isWire [.int x0] g Q
set_option maxRecDepth 20000 in
theorem Vm_isWire {x0 : Int32} {g : Sg} {Q : Int32 → Sg → Prop} (h : bP (0 ≤ x0 ∧ x0 ≤ 15) &&& 1 = bP (0 ≤ x0 ∧ x0 ≤ 15) ∧ Q (bP (0 ≤ x0 ∧ x0 ≤ 15)) g) : Cm_isWire x0 g Q := by
  refine Cl.of 0 pl_X9 rfl ?_
  refine e_iload_n (dx D_m_isWire 0 rfl) rfl ?_
  refine e_i2l (dx D_m_isWire 1 rfl) ?_
  refine q_lconst (v := 0) (dx D_m_isWire 2 rfl) (by decide) ?_
  refine e_ldc2 (v := 15) (dx D_m_isWire 3 rfl) k1140 ?_
  refine e_callSi (Q1 := fun r g' => bP (0 ≤ x0 ∧ x0 ≤ 15) = r ∧ g = g') (rest := []) [.long (Int32.toInt64 x0), .long 0, .long 15] (dx D_m_isWire 4 rfl) ln_m_isWire_70 rfl rfl (Nat.le_of_ble_eq_true rfl) (Im_in  ⟨(in32 (a := x0) (b := 0) (c := 15) rfl (by decide) (by decide)).symm, rfl⟩) (fun r g' hh => ?_)
  obtain ⟨rfl, rfl⟩ := hh
  obtain ⟨hb1, h⟩ := h
  exact e_iret (dx D_m_isWire 5 rfl) rfl (nb1 hb1) ⟨_, rfl, h⟩
theorem Im_isWire {x0 : Int32} {g : Sg} {Q : Int32 → Sg → Prop} (h : Q (bP (isW x0)) g) : Cm_isWire x0 g Q := by
  refine Vm_isWire ?_
  exact ⟨bP_1 _, h⟩
abbrev Cm_areEnds (x0 : Int32) (x1 : Int32) (g : Sg) (Q : Int32 → Sg → Prop) : Prop := Ci Mm_areEnds [.int x0, .int x1] g Q
set_option maxRecDepth 20000 in
theorem Vm_areEnds {x0 : Int32} {x1 : Int32} {g : Sg} {Q : Int32 → Sg → Prop} (h : (((isE x0) → (((isE x1) → ((x0 = x1 → Q 0 g) ∧ (¬ x0 = x1 → Q 1 g))) ∧ (¬ (isE x1) → Q 0 g))) ∧ (¬ (isE x0) → Q 0 g))) : Cm_areEnds x0 x1 g Q := by
  refine Cl.of 0 pl_X9 rfl ?_
  refine e_iload_n (dx D_m_areEnds 0 rfl) rfl ?_
  refine e_callSi (Q1 := fun r g' => bP (isE x0) = r ∧ g = g') (rest := []) [.int x0] (dx D_m_areEnds 1 rfl) ln_m_areEnds_130 rfl rfl (Nat.le_of_ble_eq_true rfl) (Im_isEnd  ⟨rfl, rfl⟩) (fun r g' hh => ?_)
  obtain ⟨rfl, rfl⟩ := hh
  refine e_if_eq (tgt := 23) (dx D_m_areEnds 2 rfl) (by decide) (fun c => ?_) (fun c => ?_)
  · replace h := h.2 (bP_z c)
    refine q_iconst (v := 0) (dx D_m_areEnds 11 rfl) (by decide) ?_
    exact e_iret (dx D_m_areEnds 12 rfl) rfl (by decide) ⟨_, rfl, h⟩
  · replace h := h.1 (bP_n c)
    refine e_iload_n (dx D_m_areEnds 3 rfl) rfl ?_
    refine e_callSi (Q1 := fun r g' => bP (isE x1) = r ∧ g = g') (rest := []) [.int x1] (dx D_m_areEnds 4 rfl) ln_m_areEnds_130 rfl rfl (Nat.le_of_ble_eq_true rfl) (Im_isEnd  ⟨rfl, rfl⟩) (fun r g' hh => ?_)
    obtain ⟨rfl, rfl⟩ := hh
    refine e_if_eq (tgt := 23) (dx D_m_areEnds 5 rfl) (by decide) (fun c => ?_) (fun c => ?_)
    · replace h := h.2 (bP_z c)
      refine q_iconst (v := 0) (dx D_m_areEnds 11 rfl) (by decide) ?_
      exact e_iret (dx D_m_areEnds 12 rfl) rfl (by decide) ⟨_, rfl, h⟩
    · replace h := h.1 (bP_n c)
      refine e_iload_n (dx D_m_areEnds 6 rfl) rfl ?_
      refine e_iload_n (dx D_m_areEnds 7 rfl) rfl ?_
      refine e_icmp_eq (tgt := 23) (dx D_m_areEnds 8 rfl) (by decide) (fun c => ?_) (fun c => ?_)
      · replace h := h.1 c
        refine q_iconst (v := 0) (dx D_m_areEnds 11 rfl) (by decide) ?_
        exact e_iret (dx D_m_areEnds 12 rfl) rfl (by decide) ⟨_, rfl, h⟩
      · replace h := h.2 c
        refine q_iconst (v := 1) (dx D_m_areEnds 9 rfl) (by decide) ?_
        refine e_goto (tgt := 24) (dx D_m_areEnds 10 rfl) (by decide) ?_
        exact e_iret (dx D_m_areEnds 12 rfl) rfl (by decide) ⟨_, rfl, h⟩
theorem Im_areEnds {x0 : Int32} {x1 : Int32} {g : Sg} {Q : Int32 → Sg → Prop} (h : Q (bP (twoE x0 x1)) g) : Cm_areEnds x0 x1 g Q := by
  refine Vm_areEnds ?_
  exact lf_two h
abbrev Cm_other (x1 : Int32) (x2 : Int32) (g : Sg) (Q : Int32 → Sg → Prop) : Prop := Ci Mm_other [.ref 34, .int x1, .int x2] g Q
set_option maxRecDepth 20000 in
theorem Vm_other {x1 : Int32} {x2 : Int32} {g : Sg} {Q : Int32 → Sg → Prop} (h : vp_in (4 * x1) 64 ∧ (((g 40 (4 * x1).toNatClampNeg) = x2 → vp_in ((4 * x1) + 1) 64 ∧ Q (g 40 ((4 * x1) + 1).toNatClampNeg) g) ∧ (¬ (g 40 (4 * x1).toNatClampNeg) = x2 → vp_in ((4 * x1) + 1) 64 ∧ (((g 40 ((4 * x1) + 1).toNatClampNeg) = x2 → vp_in (4 * x1) 64 ∧ Q (g 40 (4 * x1).toNatClampNeg) g) ∧ (¬ (g 40 ((4 * x1) + 1).toNatClampNeg) = x2 → Q (-1) g))))) : Cm_other x1 x2 g Q := by
  refine Cl.of 0 pl_X9 rfl ?_
  refine e_aload_n (dx D_m_other 0 rfl) rfl ?_
  refine e_getR (dx D_m_other 1 rfl) fl_RX9_25 rfl rfl ?_
  refine q_iconst (v := 4) (dx D_m_other 2 rfl) (by decide) ?_
  refine e_iload_n (dx D_m_other 3 rfl) rfl ?_
  refine e_imul (dx D_m_other 4 rfl) ?_
  obtain ⟨hb1, h⟩ := h
  refine e_iald (dx D_m_other 5 rfl) rfl hb1 ?_
  refine e_iload_n (dx D_m_other 6 rfl) rfl ?_
  refine e_icmp_ne (tgt := 25) (dx D_m_other 7 rfl) (by decide) (fun c => ?_) (fun c => ?_)
  · replace h := h.2 c
    refine e_aload_n (dx D_m_other 17 rfl) rfl ?_
    refine e_getR (dx D_m_other 18 rfl) fl_RX9_25 rfl rfl ?_
    refine q_iconst (v := 4) (dx D_m_other 19 rfl) (by decide) ?_
    refine e_iload_n (dx D_m_other 20 rfl) rfl ?_
    refine e_imul (dx D_m_other 21 rfl) ?_
    refine q_iconst (v := 1) (dx D_m_other 22 rfl) (by decide) ?_
    refine e_iadd (dx D_m_other 23 rfl) ?_
    obtain ⟨hb2, h⟩ := h
    refine e_iald (dx D_m_other 24 rfl) rfl hb2 ?_
    refine e_iload_n (dx D_m_other 25 rfl) rfl ?_
    refine e_icmp_ne (tgt := 50) (dx D_m_other 26 rfl) (by decide) (fun c => ?_) (fun c => ?_)
    · replace h := h.2 c
      refine q_iconst (v := (-1)) (dx D_m_other 34 rfl) (by decide) ?_
      exact e_iret (dx D_m_other 35 rfl) rfl rfl ⟨_, rfl, h⟩
    · replace h := h.1 c
      refine e_aload_n (dx D_m_other 27 rfl) rfl ?_
      refine e_getR (dx D_m_other 28 rfl) fl_RX9_25 rfl rfl ?_
      refine q_iconst (v := 4) (dx D_m_other 29 rfl) (by decide) ?_
      refine e_iload_n (dx D_m_other 30 rfl) rfl ?_
      refine e_imul (dx D_m_other 31 rfl) ?_
      obtain ⟨hb3, h⟩ := h
      refine e_iald (dx D_m_other 32 rfl) rfl hb3 ?_
      refine e_goto (tgt := 51) (dx D_m_other 33 rfl) (by decide) ?_
      exact e_iret (dx D_m_other 35 rfl) rfl rfl ⟨_, rfl, h⟩
  · replace h := h.1 c
    refine e_aload_n (dx D_m_other 8 rfl) rfl ?_
    refine e_getR (dx D_m_other 9 rfl) fl_RX9_25 rfl rfl ?_
    refine q_iconst (v := 4) (dx D_m_other 10 rfl) (by decide) ?_
    refine e_iload_n (dx D_m_other 11 rfl) rfl ?_
    refine e_imul (dx D_m_other 12 rfl) ?_
    refine q_iconst (v := 1) (dx D_m_other 13 rfl) (by decide) ?_
    refine e_iadd (dx D_m_other 14 rfl) ?_
    obtain ⟨hb4, h⟩ := h
    refine e_iald (dx D_m_other 15 rfl) rfl hb4 ?_
    refine e_goto (tgt := 51) (dx D_m_other 16 rfl) (by decide) ?_
    exact e_iret (dx D_m_other 35 rfl) rfl rfl ⟨_, rfl, h⟩
theorem Im_other {x1 : Int32} {x2 : Int32} {g : Sg} {Q : Int32 → Sg → Prop} (hs1 : vp_in (4 * x1) 64) (hs2 : vp_in (4 * x1 + 1) 64) (h : Q (mOth g x1 x2) g) : Cm_other x1 x2 g Q := by
  refine Vm_other ?_
  exact lf_oth hs1 hs2 h
abbrev Cm_isOpen (x1 : Int32) (g : Sg) (Q : Int32 → Sg → Prop) : Prop := Ci Mm_isOpen [.ref 34, .int x1] g Q
set_option maxRecDepth 20000 in
theorem Vm_isOpen {x1 : Int32} {g : Sg} {Q : Int32 → Sg → Prop} (h : (((tbb (g 41 0) x1 = true) → Q 0 g) ∧ (¬ (tbb (g 41 0) x1 = true) → vp_in x1 16 ∧ (((g 41 1) ≤ (g 44 (x1).toNatClampNeg) → Q 0 g) ∧ (¬ (g 41 1) ≤ (g 44 (x1).toNatClampNeg) → Q 1 g))))) : Cm_isOpen x1 g Q := by
  refine Cl.of 0 pl_X9 rfl ?_
  refine e_aload_n (dx D_m_isOpen 0 rfl) rfl ?_
  refine e_getR (dx D_m_isOpen 1 rfl) fl_RX9_28 rfl rfl ?_
  refine q_iconst (v := 0) (dx D_m_isOpen 2 rfl) (by decide) ?_
  refine e_iald (dx D_m_isOpen 3 rfl) rfl (by unfold vp_in; decide) ?_
  refine e_iload_n (dx D_m_isOpen 4 rfl) rfl ?_
  refine e_callSi (Q1 := fun r g' => bP (tbb (g 41 0) x1 = true) = r ∧ g = g') (rest := []) [.int (g 41 0), .int x1] (dx D_m_isOpen 5 rfl) ln_m_isOpen_149 rfl rfl (Nat.le_of_ble_eq_true rfl) (Im_isIn  ⟨rfl, rfl⟩) (fun r g' hh => ?_)
  obtain ⟨rfl, rfl⟩ := hh
  refine e_if_ne (tgt := 32) (dx D_m_isOpen 6 rfl) (by decide) (fun c => ?_) (fun c => ?_)
  · replace h := h.1 (bP_n c)
    refine q_iconst (v := 0) (dx D_m_isOpen 18 rfl) (by decide) ?_
    exact e_iret (dx D_m_isOpen 19 rfl) rfl (by decide) ⟨_, rfl, h⟩
  · replace h := h.2 (bP_z c)
    refine e_aload_n (dx D_m_isOpen 7 rfl) rfl ?_
    refine e_getR (dx D_m_isOpen 8 rfl) fl_RX9_37 rfl rfl ?_
    refine e_iload_n (dx D_m_isOpen 9 rfl) rfl ?_
    obtain ⟨hb1, h⟩ := h
    refine e_iald (dx D_m_isOpen 10 rfl) rfl hb1 ?_
    refine e_aload_n (dx D_m_isOpen 11 rfl) rfl ?_
    refine e_getR (dx D_m_isOpen 12 rfl) fl_RX9_28 rfl rfl ?_
    refine q_iconst (v := 1) (dx D_m_isOpen 13 rfl) (by decide) ?_
    refine e_iald (dx D_m_isOpen 14 rfl) rfl (by unfold vp_in; decide) ?_
    refine e_icmp_ge (tgt := 32) (dx D_m_isOpen 15 rfl) (by decide) (fun c => ?_) (fun c => ?_)
    · replace h := h.1 c
      refine q_iconst (v := 0) (dx D_m_isOpen 18 rfl) (by decide) ?_
      exact e_iret (dx D_m_isOpen 19 rfl) rfl (by decide) ⟨_, rfl, h⟩
    · replace h := h.2 c
      refine q_iconst (v := 1) (dx D_m_isOpen 16 rfl) (by decide) ?_
      refine e_goto (tgt := 33) (dx D_m_isOpen 17 rfl) (by decide) ?_
      exact e_iret (dx D_m_isOpen 19 rfl) rfl (by decide) ⟨_, rfl, h⟩
theorem Im_isOpen {x1 : Int32} {g : Sg} {Q : Int32 → Sg → Prop} (hs1 : vp_in x1 16) (h : Q (bP (tbb (g 41 0) x1 = false ∧ g 44 (x1).toNatClampNeg < g 41 1)) g) : Cm_isOpen x1 g Q := by
  refine Vm_isOpen ?_
  exact lf_openM hs1 h
abbrev Cm_pipesOf (x1 : Int32) (g : Sg) (Q : Int32 → Sg → Prop) : Prop := Ci Mm_pipesOf [.ref 34, .int x1] g Q
set_option maxRecDepth 20000 in
theorem Vm_pipesOf {x1 : Int32} {g : Sg} {Q : Int32 → Sg → Prop} (h : (((tbb (g 34 15) x1 = true) → vp_in x1 16 ∧ Q (g 43 (x1).toNatClampNeg) g) ∧ (¬ (tbb (g 34 15) x1 = true) → Q 0 g))) : Cm_pipesOf x1 g Q := by
  refine Cl.of 0 pl_X9 rfl ?_
  refine e_aload_n (dx D_m_pipesOf 0 rfl) rfl ?_
  refine e_getI (dx D_m_pipesOf 1 rfl) fl_RX9_165 rfl rfl ?_
  refine e_iload_n (dx D_m_pipesOf 2 rfl) rfl ?_
  refine e_callSi (Q1 := fun r g' => bP (tbb (g 34 15) x1 = true) = r ∧ g = g') (rest := []) [.int (g 34 15), .int x1] (dx D_m_pipesOf 3 rfl) ln_m_pipesOf_149 rfl rfl (Nat.le_of_ble_eq_true rfl) (Im_isIn  ⟨rfl, rfl⟩) (fun r g' hh => ?_)
  obtain ⟨rfl, rfl⟩ := hh
  refine e_if_eq (tgt := 20) (dx D_m_pipesOf 4 rfl) (by decide) (fun c => ?_) (fun c => ?_)
  · replace h := h.2 (bP_z c)
    refine q_iconst (v := 0) (dx D_m_pipesOf 10 rfl) (by decide) ?_
    exact e_iret (dx D_m_pipesOf 11 rfl) rfl rfl ⟨_, rfl, h⟩
  · replace h := h.1 (bP_n c)
    refine e_aload_n (dx D_m_pipesOf 5 rfl) rfl ?_
    refine e_getR (dx D_m_pipesOf 6 rfl) fl_RX9_34 rfl rfl ?_
    refine e_iload_n (dx D_m_pipesOf 7 rfl) rfl ?_
    obtain ⟨hb1, h⟩ := h
    refine e_iald (dx D_m_pipesOf 8 rfl) rfl hb1 ?_
    refine e_goto (tgt := 21) (dx D_m_pipesOf 9 rfl) (by decide) ?_
    exact e_iret (dx D_m_pipesOf 11 rfl) rfl rfl ⟨_, rfl, h⟩
theorem Im_pipesOf {x1 : Int32} {g : Sg} {Q : Int32 → Sg → Prop} (hs1 : vp_in x1 16) (h : Q ((if tbb (g 34 15) x1 = true then g 43 (x1).toNatClampNeg else 0)) g) : Cm_pipesOf x1 g Q := by
  refine Vm_pipesOf ?_
  exact lf_pofM hs1 h
abbrev Cm_joined (x0 : Int32) (x1 : Int32) (x2 : Int32) (g : Sg) (Q : Int32 → Sg → Prop) : Prop := Ci Mm_joined [.int x0, .int x1, .int x2] g Q
set_option maxRecDepth 20000 in
theorem Vm_joined {x0 : Int32} {x1 : Int32} {x2 : Int32} {g : Sg} {Q : Int32 → Sg → Prop} (h : (((tbb x0 x1 = true) → Q ((sb x1) ||| (sb x2)) g) ∧ (¬ (tbb x0 x1 = true) → (((tbb x0 x2 = true) → Q ((sb x1) ||| (sb x2)) g) ∧ (¬ (tbb x0 x2 = true) → Q 0 g))))) : Cm_joined x0 x1 x2 g Q := by
  refine Cl.of 0 pl_X9 rfl ?_
  refine e_iload_n (dx D_m_joined 0 rfl) rfl ?_
  refine e_iload_n (dx D_m_joined 1 rfl) rfl ?_
  refine e_callSi (Q1 := fun r g' => bP (tbb x0 x1 = true) = r ∧ g = g') (rest := []) [.int x0, .int x1] (dx D_m_joined 2 rfl) ln_m_joined_149 rfl rfl (Nat.le_of_ble_eq_true rfl) (Im_isIn  ⟨rfl, rfl⟩) (fun r g' hh => ?_)
  obtain ⟨rfl, rfl⟩ := hh
  refine e_if_ne (tgt := 16) (dx D_m_joined 3 rfl) (by decide) (fun c => ?_) (fun c => ?_)
  · replace h := h.1 (bP_n c)
    refine q_iconst (v := 1) (dx D_m_joined 8 rfl) (by decide) ?_
    refine e_iload_n (dx D_m_joined 9 rfl) rfl ?_
    refine e_ishl (dx D_m_joined 10 rfl) ?_
    refine q_iconst (v := 1) (dx D_m_joined 11 rfl) (by decide) ?_
    refine e_iload_n (dx D_m_joined 12 rfl) rfl ?_
    refine e_ishl (dx D_m_joined 13 rfl) ?_
    refine e_ior (dx D_m_joined 14 rfl) ?_
    refine e_goto (tgt := 27) (dx D_m_joined 15 rfl) (by decide) ?_
    exact e_iret (dx D_m_joined 17 rfl) rfl rfl ⟨_, rfl, h⟩
  · replace h := h.2 (bP_z c)
    refine e_iload_n (dx D_m_joined 4 rfl) rfl ?_
    refine e_iload_n (dx D_m_joined 5 rfl) rfl ?_
    refine e_callSi (Q1 := fun r g' => bP (tbb x0 x2 = true) = r ∧ g = g') (rest := []) [.int x0, .int x2] (dx D_m_joined 6 rfl) ln_m_joined_149 rfl rfl (Nat.le_of_ble_eq_true rfl) (Im_isIn  ⟨rfl, rfl⟩) (fun r g' hh => ?_)
    obtain ⟨rfl, rfl⟩ := hh
    refine e_if_eq (tgt := 26) (dx D_m_joined 7 rfl) (by decide) (fun c => ?_) (fun c => ?_)
    · replace h := h.2 (bP_z c)
      refine q_iconst (v := 0) (dx D_m_joined 16 rfl) (by decide) ?_
      exact e_iret (dx D_m_joined 17 rfl) rfl rfl ⟨_, rfl, h⟩
    · replace h := h.1 (bP_n c)
      refine q_iconst (v := 1) (dx D_m_joined 8 rfl) (by decide) ?_
      refine e_iload_n (dx D_m_joined 9 rfl) rfl ?_
      refine e_ishl (dx D_m_joined 10 rfl) ?_
      refine q_iconst (v := 1) (dx D_m_joined 11 rfl) (by decide) ?_
      refine e_iload_n (dx D_m_joined 12 rfl) rfl ?_
      refine e_ishl (dx D_m_joined 13 rfl) ?_
      refine e_ior (dx D_m_joined 14 rfl) ?_
      refine e_goto (tgt := 27) (dx D_m_joined 15 rfl) (by decide) ?_
      exact e_iret (dx D_m_joined 17 rfl) rfl rfl ⟨_, rfl, h⟩
theorem Im_joined {x0 : Int32} {x1 : Int32} {x2 : Int32} {g : Sg} {Q : Int32 → Sg → Prop} (h : Q ((if tbb x0 x1 = true ∨ tbb x0 x2 = true then sb x1 ||| sb x2 else 0)) g) : Cm_joined x0 x1 x2 g Q := by
  refine Vm_joined ?_
  exact lf_joined h
abbrev Cm_goesThrough (x1 : Int32) (g : Sg) (Q : Int32 → Sg → Prop) : Prop := Ci Mm_goesThrough [.ref 34, .int x1] g Q
set_option maxRecDepth 20000 in
theorem Vm_goesThrough {x1 : Int32} {g : Sg} {Q : Int32 → Sg → Prop} (h : (((tbb (g 41 0) (x1 / 2) = true) → Q 0 g) ∧ (¬ (tbb (g 41 0) (x1 / 2) = true) → Q 1 g))) : Cm_goesThrough x1 g Q := by
  refine Cl.of 0 pl_X9 rfl ?_
  refine e_aload_n (dx D_m_goesThrough 0 rfl) rfl ?_
  refine e_getR (dx D_m_goesThrough 1 rfl) fl_RX9_28 rfl rfl ?_
  refine q_iconst (v := 0) (dx D_m_goesThrough 2 rfl) (by decide) ?_
  refine e_iald (dx D_m_goesThrough 3 rfl) rfl (by unfold vp_in; decide) ?_
  refine e_iload_n (dx D_m_goesThrough 4 rfl) rfl ?_
  refine q_iconst (v := 2) (dx D_m_goesThrough 5 rfl) (by decide) ?_
  refine e_idiv (dx D_m_goesThrough 6 rfl) (by decide) ?_
  refine e_callSi (Q1 := fun r g' => bP (tbb (g 41 0) (x1 / 2) = true) = r ∧ g = g') (rest := []) [.int (g 41 0), .int (x1 / 2)] (dx D_m_goesThrough 7 rfl) ln_m_goesThrough_149 rfl rfl (Nat.le_of_ble_eq_true rfl) (Im_isIn  ⟨rfl, rfl⟩) (fun r g' hh => ?_)
  obtain ⟨rfl, rfl⟩ := hh
  refine e_if_ne (tgt := 19) (dx D_m_goesThrough 8 rfl) (by decide) (fun c => ?_) (fun c => ?_)
  · replace h := h.1 (bP_n c)
    refine q_iconst (v := 0) (dx D_m_goesThrough 11 rfl) (by decide) ?_
    exact e_iret (dx D_m_goesThrough 12 rfl) rfl (by decide) ⟨_, rfl, h⟩
  · replace h := h.2 (bP_z c)
    refine q_iconst (v := 1) (dx D_m_goesThrough 9 rfl) (by decide) ?_
    refine e_goto (tgt := 20) (dx D_m_goesThrough 10 rfl) (by decide) ?_
    exact e_iret (dx D_m_goesThrough 12 rfl) rfl (by decide) ⟨_, rfl, h⟩
theorem Im_goesThrough {x1 : Int32} {g : Sg} {Q : Int32 → Sg → Prop} (h : Q (bP (¬ tbb (g 41 0) (x1 / 2) = true)) g) : Cm_goesThrough x1 g Q := by
  refine Vm_goesThrough ?_
  exact lf_ifn2 h
