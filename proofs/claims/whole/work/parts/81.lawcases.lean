/-! the law: its cases -/
def Elw (L : Nat) (xs : Nat → Int32) (s : State) (ad : Nat → Nat) : Prop := va_X (ad 99) L xs s s.heap ∧ ad 99 < s.heap.size ∧ ¬ wA ad (ad 99)
abbrev LLw (x : Int32) : Ls := [some (.ref 99), some (.ref 0), some (.ref 34), some (.int x)]
def QLw (v : Option Value) (_ : Sg) : Prop := v = some (.int 1)
theorem e_sld {M : MI} {Lc : Ls} {st : List Value} {g : Sg} {Q : Option Value → Sg → Prop} {pc L : Nat} {xs : Nat → Int32} {i : Int32} (hd : decode M.2.1 pc = .ok (.iaload, 1)) (hi : vp_in i L) (k : Wp M (Elw L xs) (pc + 1) Lc (.int (xs i.toNatClampNeg) :: st) g Q) : Wp M (Elw L xs) pc Lc (.int i :: .ref 99 :: st) g Q :=
  fun p l e R s m args below meth c D ad cA cells slots Qf C hE hQ H locs ls hP hS hl => va_sld C.1 C.2.1 hE.1 hE.2.1 hE.2.2 hS hi hd (k p l e R s m args below meth c D ad cA cells slots Qf C hE hQ H locs ls hP hS hl)
theorem e_slen {M : MI} {Lc : Ls} {st : List Value} {g : Sg} {Q : Option Value → Sg → Prop} {pc L : Nat} {xs : Nat → Int32} (hd : decode M.2.1 pc = .ok (.arraylength, 1)) (k : Wp M (Elw L xs) (pc + 1) Lc (.int (Int32.ofNat L) :: st) g Q) : Wp M (Elw L xs) pc Lc (.ref 99 :: st) g Q :=
  fun p l e R s m args below meth c D ad cA cells slots Qf C hE hQ H locs ls hP hS hl => va_slen C.1 C.2.1 hE.1 hE.2.1 hE.2.2 hS hd (k p l e R s m args below meth c D ad cA cells slots Qf C hE hQ H locs ls hP hS hl)
def Nxt (L : Nat) (xs : Nat → Int32) (i : Nat) : Prop := ∀ g', Rel g' → Wp Mlaw_law (Elw L xs) 1315 (LLw (nI i)) [] g' QLw
theorem hvs {L i : Nat} (hL : L ≤ 384) (hi : i + 6 ≤ L) (k : Nat) (hk : k < 6) : vp_in (nI i + nI k) L := by
  rw [nI_add]; exact vp_in_nI (by omega) (by omega)
theorem lcz (x : Int64) : lg_cmp x x = 0 := by simp [lg_cmp]
theorem lc_0 {L : Nat} {xs : Nat → Int32} {i : Nat} {g : Sg} (hL : L ≤ 384) (hi : i + 6 ≤ L) (hR : Rel g) (hn : Nxt L xs i) : Wp Mlaw_law (Elw L xs) 200 (LLw (nI i)) [] g QLw := by
  refine e_aload_n (dx D_law0 22 rfl) rfl ?_
  refine e_aload_n (dx D_law0 23 rfl) rfl ?_
  refine e_iload_n (dx D_law0 24 rfl) rfl ?_
  refine q_iconst (v := nI 1) (dx D_law0 25 rfl) (by decide) ?_
  refine e_iadd (dx D_law0 26 rfl) ?_
  refine e_sld (dx D_law0 27 rfl) (hvs hL hi 1 (by omega)) ?_
  refine e_callVi (Q1 := fun r g1 => Cm_type (xs (nI i + nI 1).toNatClampNeg) g1 (fun r' g2 => r = r' ∧ Rel g2)) (rest := []) [.int (xs (nI i + nI 1).toNatClampNeg)] (dx D_law0 28 rfl) ln_law_law_13 rfl rfl rfl (Nat.le_of_ble_eq_true rfl) (op_type hR (fun r g' h => ⟨rfl, h⟩)) (fun r g1 h1 => ?_)
  refine e_aload_n (dx D_law0 29 rfl) rfl ?_
  refine e_aload_n (dx D_law0 30 rfl) rfl ?_
  refine e_iload_n (dx D_law0 31 rfl) rfl ?_
  refine q_iconst (v := nI 1) (dx D_law0 32 rfl) (by decide) ?_
  refine e_iadd (dx D_law0 33 rfl) ?_
  refine e_sld (dx D_law0 34 rfl) (hvs hL hi 1 (by omega)) ?_
  refine e_callVi (rest := [.int r]) [.int (xs (nI i + nI 1).toNatClampNeg)] (dx D_law0 35 rfl) ln_law_law_17 rfl rfl rfl (Nat.le_of_ble_eq_true rfl) h1 (fun r' g2 h2 => ?_)
  obtain ⟨rfl, hR2⟩ := h2
  exact e_icmp_eq (tgt := 1315) (dx D_law0 36 rfl) (by decide) (fun _ => hn g2 hR2) (fun hc => absurd rfl hc)
theorem lc_1 {L : Nat} {xs : Nat → Int32} {i : Nat} {g : Sg} (hL : L ≤ 384) (hi : i + 6 ≤ L) (hR : Rel g) (hn : Nxt L xs i) : Wp Mlaw_law (Elw L xs) 223 (LLw (nI i)) [] g QLw := by
  refine e_aload_n (dx D_law0 39 rfl) rfl ?_
  refine e_callVi (Q1 := fun r g1 => Cm_wipe  g1 (fun r' g2 => r = r' ∧ Rel g2)) (rest := []) [] (dx D_law0 40 rfl) ln_law_law_18 rfl rfl rfl (Nat.le_of_ble_eq_true rfl) (op_wipe hR (fun r g' h => ⟨rfl, h⟩)) (fun r g1 h1 => ?_)
  refine e_aload_n (dx D_law0 41 rfl) rfl ?_
  refine e_callVi (rest := [.int r]) [] (dx D_law0 42 rfl) ln_law_law_22 rfl rfl rfl (Nat.le_of_ble_eq_true rfl) h1 (fun r' g2 h2 => ?_)
  obtain ⟨rfl, hR2⟩ := h2
  exact e_icmp_eq (tgt := 1315) (dx D_law0 43 rfl) (by decide) (fun _ => hn g2 hR2) (fun hc => absurd rfl hc)
theorem lc_2 {L : Nat} {xs : Nat → Int32} {i : Nat} {g : Sg} (hL : L ≤ 384) (hi : i + 6 ≤ L) (hR : Rel g) (hn : Nxt L xs i) : Wp Mlaw_law (Elw L xs) 236 (LLw (nI i)) [] g QLw := by
  refine e_aload_n (dx D_law0 46 rfl) rfl ?_
  refine e_callVi (Q1 := fun r g1 => Cm_undo  g1 (fun r' g2 => r = r' ∧ Rel g2)) (rest := []) [] (dx D_law0 47 rfl) ln_law_law_23 rfl rfl rfl (Nat.le_of_ble_eq_true rfl) (op_undo hR (fun r g' h => ⟨rfl, h⟩)) (fun r g1 h1 => ?_)
  refine e_aload_n (dx D_law0 48 rfl) rfl ?_
  refine e_callVi (rest := [.int r]) [] (dx D_law0 49 rfl) ln_law_law_26 rfl rfl rfl (Nat.le_of_ble_eq_true rfl) h1 (fun r' g2 h2 => ?_)
  obtain ⟨rfl, hR2⟩ := h2
  exact e_icmp_eq (tgt := 1315) (dx D_law1 0 rfl) (by decide) (fun _ => hn g2 hR2) (fun hc => absurd rfl hc)
theorem lc_3 {L : Nat} {xs : Nat → Int32} {i : Nat} {g : Sg} (hL : L ≤ 384) (hi : i + 6 ≤ L) (hR : Rel g) (hn : Nxt L xs i) : Wp Mlaw_law (Elw L xs) 249 (LLw (nI i)) [] g QLw := by
  refine e_aload_n (dx D_law1 3 rfl) rfl ?_
  refine e_callVi (Q1 := fun r g1 => Cm_fault  g1 (fun r' g2 => r = r' ∧ Rel g2)) (rest := []) [] (dx D_law1 4 rfl) ln_law_law_27 rfl rfl rfl (Nat.le_of_ble_eq_true rfl) (op_fault hR (fun r g' h => ⟨rfl, h⟩)) (fun r g1 h1 => ?_)
  refine e_aload_n (dx D_law1 5 rfl) rfl ?_
  refine e_callVi (rest := [.int r]) [] (dx D_law1 6 rfl) ln_law_law_30 rfl rfl rfl (Nat.le_of_ble_eq_true rfl) h1 (fun r' g2 h2 => ?_)
  obtain ⟨rfl, hR2⟩ := h2
  exact e_icmp_eq (tgt := 1315) (dx D_law1 7 rfl) (by decide) (fun _ => hn g2 hR2) (fun hc => absurd rfl hc)
theorem lc_4 {L : Nat} {xs : Nat → Int32} {i : Nat} {g : Sg} (hL : L ≤ 384) (hi : i + 6 ≤ L) (hR : Rel g) (hn : Nxt L xs i) : Wp Mlaw_law (Elw L xs) 262 (LLw (nI i)) [] g QLw := by
  refine e_aload_n (dx D_law1 10 rfl) rfl ?_
  refine e_aload_n (dx D_law1 11 rfl) rfl ?_
  refine e_iload_n (dx D_law1 12 rfl) rfl ?_
  refine q_iconst (v := nI 1) (dx D_law1 13 rfl) (by decide) ?_
  refine e_iadd (dx D_law1 14 rfl) ?_
  refine e_sld (dx D_law1 15 rfl) (hvs hL hi 1 (by omega)) ?_
  refine e_aload_n (dx D_law1 16 rfl) rfl ?_
  refine e_iload_n (dx D_law1 17 rfl) rfl ?_
  refine q_iconst (v := nI 2) (dx D_law1 18 rfl) (by decide) ?_
  refine e_iadd (dx D_law1 19 rfl) ?_
  refine e_sld (dx D_law1 20 rfl) (hvs hL hi 2 (by omega)) ?_
  refine e_callVi (Q1 := fun r g1 => Cm_pipe (xs (nI i + nI 1).toNatClampNeg) (xs (nI i + nI 2).toNatClampNeg) g1 (fun r' g2 => r = r' ∧ Rel g2)) (rest := []) [.int (xs (nI i + nI 1).toNatClampNeg), .int (xs (nI i + nI 2).toNatClampNeg)] (dx D_law1 21 rfl) ln_law_law_31 rfl rfl rfl (Nat.le_of_ble_eq_true rfl) (op_pipe hR (fun r g' h => ⟨rfl, h⟩)) (fun r g1 h1 => ?_)
  refine e_aload_n (dx D_law1 22 rfl) rfl ?_
  refine e_aload_n (dx D_law1 23 rfl) rfl ?_
  refine e_iload_n (dx D_law1 24 rfl) rfl ?_
  refine q_iconst (v := nI 1) (dx D_law1 25 rfl) (by decide) ?_
  refine e_iadd (dx D_law1 26 rfl) ?_
  refine e_sld (dx D_law1 27 rfl) (hvs hL hi 1 (by omega)) ?_
  refine e_aload_n (dx D_law1 28 rfl) rfl ?_
  refine e_iload_n (dx D_law1 29 rfl) rfl ?_
  refine q_iconst (v := nI 2) (dx D_law1 30 rfl) (by decide) ?_
  refine e_iadd (dx D_law1 31 rfl) ?_
  refine e_sld (dx D_law1 32 rfl) (hvs hL hi 2 (by omega)) ?_
  refine e_callVi (rest := [.int r]) [.int (xs (nI i + nI 1).toNatClampNeg), .int (xs (nI i + nI 2).toNatClampNeg)] (dx D_law1 33 rfl) ln_law_law_35 rfl rfl rfl (Nat.le_of_ble_eq_true rfl) h1 (fun r' g2 h2 => ?_)
  obtain ⟨rfl, hR2⟩ := h2
  exact e_icmp_eq (tgt := 1315) (dx D_law1 34 rfl) (by decide) (fun _ => hn g2 hR2) (fun hc => absurd rfl hc)
theorem lc_5 {L : Nat} {xs : Nat → Int32} {i : Nat} {g : Sg} (hL : L ≤ 384) (hi : i + 6 ≤ L) (hR : Rel g) (hn : Nxt L xs i) : Wp Mlaw_law (Elw L xs) 295 (LLw (nI i)) [] g QLw := by
  refine e_aload_n (dx D_law1 37 rfl) rfl ?_
  refine e_aload_n (dx D_law1 38 rfl) rfl ?_
  refine e_iload_n (dx D_law1 39 rfl) rfl ?_
  refine q_iconst (v := nI 1) (dx D_law1 40 rfl) (by decide) ?_
  refine e_iadd (dx D_law1 41 rfl) ?_
  refine e_sld (dx D_law1 42 rfl) (hvs hL hi 1 (by omega)) ?_
  refine e_aload_n (dx D_law1 43 rfl) rfl ?_
  refine e_iload_n (dx D_law1 44 rfl) rfl ?_
  refine q_iconst (v := nI 2) (dx D_law1 45 rfl) (by decide) ?_
  refine e_iadd (dx D_law1 46 rfl) ?_
  refine e_sld (dx D_law1 47 rfl) (hvs hL hi 2 (by omega)) ?_
  refine e_callVi (Q1 := fun r g1 => Cm_set (xs (nI i + nI 1).toNatClampNeg) (xs (nI i + nI 2).toNatClampNeg) g1 (fun r' g2 => r = r' ∧ Rel g2)) (rest := []) [.int (xs (nI i + nI 1).toNatClampNeg), .int (xs (nI i + nI 2).toNatClampNeg)] (dx D_law1 48 rfl) ln_law_law_36 rfl rfl rfl (Nat.le_of_ble_eq_true rfl) (op_set hR (fun r g' h => ⟨rfl, h⟩)) (fun r g1 h1 => ?_)
  refine e_aload_n (dx D_law1 49 rfl) rfl ?_
  refine e_aload_n (dx D_law2 0 rfl) rfl ?_
  refine e_iload_n (dx D_law2 1 rfl) rfl ?_
  refine q_iconst (v := nI 1) (dx D_law2 2 rfl) (by decide) ?_
  refine e_iadd (dx D_law2 3 rfl) ?_
  refine e_sld (dx D_law2 4 rfl) (hvs hL hi 1 (by omega)) ?_
  refine e_aload_n (dx D_law2 5 rfl) rfl ?_
  refine e_iload_n (dx D_law2 6 rfl) rfl ?_
  refine q_iconst (v := nI 2) (dx D_law2 7 rfl) (by decide) ?_
  refine e_iadd (dx D_law2 8 rfl) ?_
  refine e_sld (dx D_law2 9 rfl) (hvs hL hi 2 (by omega)) ?_
  refine e_callVi (rest := [.int r]) [.int (xs (nI i + nI 1).toNatClampNeg), .int (xs (nI i + nI 2).toNatClampNeg)] (dx D_law2 10 rfl) ln_law_law_39 rfl rfl rfl (Nat.le_of_ble_eq_true rfl) h1 (fun r' g2 h2 => ?_)
  obtain ⟨rfl, hR2⟩ := h2
  exact e_icmp_eq (tgt := 1315) (dx D_law2 11 rfl) (by decide) (fun _ => hn g2 hR2) (fun hc => absurd rfl hc)
theorem lc_6 {L : Nat} {xs : Nat → Int32} {i : Nat} {g : Sg} (hL : L ≤ 384) (hi : i + 6 ≤ L) (hR : Rel g) (hn : Nxt L xs i) : Wp Mlaw_law (Elw L xs) 328 (LLw (nI i)) [] g QLw := by
  refine e_aload_n (dx D_law2 14 rfl) rfl ?_
  refine e_aload_n (dx D_law2 15 rfl) rfl ?_
  refine e_iload_n (dx D_law2 16 rfl) rfl ?_
  refine q_iconst (v := nI 1) (dx D_law2 17 rfl) (by decide) ?_
  refine e_iadd (dx D_law2 18 rfl) ?_
  refine e_sld (dx D_law2 19 rfl) (hvs hL hi 1 (by omega)) ?_
  refine e_aload_n (dx D_law2 20 rfl) rfl ?_
  refine e_iload_n (dx D_law2 21 rfl) rfl ?_
  refine q_iconst (v := nI 2) (dx D_law2 22 rfl) (by decide) ?_
  refine e_iadd (dx D_law2 23 rfl) ?_
  refine e_sld (dx D_law2 24 rfl) (hvs hL hi 2 (by omega)) ?_
  refine e_callVi (Q1 := fun r g1 => Cm_letIn (xs (nI i + nI 1).toNatClampNeg) (xs (nI i + nI 2).toNatClampNeg) g1 (fun r' g2 => r = r' ∧ Rel g2)) (rest := []) [.int (xs (nI i + nI 1).toNatClampNeg), .int (xs (nI i + nI 2).toNatClampNeg)] (dx D_law2 25 rfl) ln_law_law_40 rfl rfl rfl (Nat.le_of_ble_eq_true rfl) (op_letIn hR (fun r g' h => ⟨rfl, h⟩)) (fun r g1 h1 => ?_)
  refine e_aload_n (dx D_law2 26 rfl) rfl ?_
  refine e_aload_n (dx D_law2 27 rfl) rfl ?_
  refine e_iload_n (dx D_law2 28 rfl) rfl ?_
  refine q_iconst (v := nI 1) (dx D_law2 29 rfl) (by decide) ?_
  refine e_iadd (dx D_law2 30 rfl) ?_
  refine e_sld (dx D_law2 31 rfl) (hvs hL hi 1 (by omega)) ?_
  refine e_aload_n (dx D_law2 32 rfl) rfl ?_
  refine e_iload_n (dx D_law2 33 rfl) rfl ?_
  refine q_iconst (v := nI 2) (dx D_law2 34 rfl) (by decide) ?_
  refine e_iadd (dx D_law2 35 rfl) ?_
  refine e_sld (dx D_law2 36 rfl) (hvs hL hi 2 (by omega)) ?_
  refine e_callVi (rest := [.int r]) [.int (xs (nI i + nI 1).toNatClampNeg), .int (xs (nI i + nI 2).toNatClampNeg)] (dx D_law2 37 rfl) ln_law_law_43 rfl rfl rfl (Nat.le_of_ble_eq_true rfl) h1 (fun r' g2 h2 => ?_)
  obtain ⟨rfl, hR2⟩ := h2
  exact e_icmp_eq (tgt := 1315) (dx D_law2 38 rfl) (by decide) (fun _ => hn g2 hR2) (fun hc => absurd rfl hc)
theorem lc_7 {L : Nat} {xs : Nat → Int32} {i : Nat} {g : Sg} (hL : L ≤ 384) (hi : i + 6 ≤ L) (hR : Rel g) (hn : Nxt L xs i) : Wp Mlaw_law (Elw L xs) 361 (LLw (nI i)) [] g QLw := by
  refine e_aload_n (dx D_law2 41 rfl) rfl ?_
  refine e_aload_n (dx D_law2 42 rfl) rfl ?_
  refine e_iload_n (dx D_law2 43 rfl) rfl ?_
  refine q_iconst (v := nI 1) (dx D_law2 44 rfl) (by decide) ?_
  refine e_iadd (dx D_law2 45 rfl) ?_
  refine e_sld (dx D_law2 46 rfl) (hvs hL hi 1 (by omega)) ?_
  refine e_callVi (Q1 := fun r g1 => Cm_pull (xs (nI i + nI 1).toNatClampNeg) g1 (fun r' g2 => r = r' ∧ Rel g2)) (rest := []) [.int (xs (nI i + nI 1).toNatClampNeg)] (dx D_law2 47 rfl) ln_law_law_44 rfl rfl rfl (Nat.le_of_ble_eq_true rfl) (op_pull hR (fun r g' h => ⟨rfl, h⟩)) (fun r g1 h1 => ?_)
  refine e_aload_n (dx D_law2 48 rfl) rfl ?_
  refine e_aload_n (dx D_law2 49 rfl) rfl ?_
  refine e_iload_n (dx D_law3 0 rfl) rfl ?_
  refine q_iconst (v := nI 1) (dx D_law3 1 rfl) (by decide) ?_
  refine e_iadd (dx D_law3 2 rfl) ?_
  refine e_sld (dx D_law3 3 rfl) (hvs hL hi 1 (by omega)) ?_
  refine e_callVi (rest := [.int r]) [.int (xs (nI i + nI 1).toNatClampNeg)] (dx D_law3 4 rfl) ln_law_law_47 rfl rfl rfl (Nat.le_of_ble_eq_true rfl) h1 (fun r' g2 h2 => ?_)
  obtain ⟨rfl, hR2⟩ := h2
  exact e_icmp_eq (tgt := 1315) (dx D_law3 5 rfl) (by decide) (fun _ => hn g2 hR2) (fun hc => absurd rfl hc)
theorem lc_8 {L : Nat} {xs : Nat → Int32} {i : Nat} {g : Sg} (hL : L ≤ 384) (hi : i + 6 ≤ L) (hR : Rel g) (hn : Nxt L xs i) : Wp Mlaw_law (Elw L xs) 384 (LLw (nI i)) [] g QLw := by
  refine e_aload_n (dx D_law3 8 rfl) rfl ?_
  refine e_callVi (Q1 := fun r g1 => Cm_back  g1 (fun r' g2 => r = r' ∧ Rel g2)) (rest := []) [] (dx D_law3 9 rfl) ln_law_law_48 rfl rfl rfl (Nat.le_of_ble_eq_true rfl) (op_back hR (fun r g' h => ⟨rfl, h⟩)) (fun r g1 h1 => ?_)
  refine e_aload_n (dx D_law3 10 rfl) rfl ?_
  refine e_callVi (rest := [.int r]) [] (dx D_law3 11 rfl) ln_law_law_51 rfl rfl rfl (Nat.le_of_ble_eq_true rfl) h1 (fun r' g2 h2 => ?_)
  obtain ⟨rfl, hR2⟩ := h2
  exact e_icmp_eq (tgt := 1315) (dx D_law3 12 rfl) (by decide) (fun _ => hn g2 hR2) (fun hc => absurd rfl hc)
theorem lc_9 {L : Nat} {xs : Nat → Int32} {i : Nat} {g : Sg} (hL : L ≤ 384) (hi : i + 6 ≤ L) (hR : Rel g) (hn : Nxt L xs i) : Wp Mlaw_law (Elw L xs) 397 (LLw (nI i)) [] g QLw := by
  refine e_aload_n (dx D_law3 15 rfl) rfl ?_
  refine e_aload_n (dx D_law3 16 rfl) rfl ?_
  refine e_iload_n (dx D_law3 17 rfl) rfl ?_
  refine q_iconst (v := nI 1) (dx D_law3 18 rfl) (by decide) ?_
  refine e_iadd (dx D_law3 19 rfl) ?_
  refine e_sld (dx D_law3 20 rfl) (hvs hL hi 1 (by omega)) ?_
  refine e_callVi (Q1 := fun r g1 => Cm_read (xs (nI i + nI 1).toNatClampNeg) g1 (fun r' g2 => r = r' ∧ Rel g2)) (rest := []) [.int (xs (nI i + nI 1).toNatClampNeg)] (dx D_law3 21 rfl) ln_law_law_52 rfl rfl rfl (Nat.le_of_ble_eq_true rfl) (op_read hR (fun r g' h => ⟨rfl, h⟩)) (fun r g1 h1 => ?_)
  refine e_aload_n (dx D_law3 22 rfl) rfl ?_
  refine e_aload_n (dx D_law3 23 rfl) rfl ?_
  refine e_iload_n (dx D_law3 24 rfl) rfl ?_
  refine q_iconst (v := nI 1) (dx D_law3 25 rfl) (by decide) ?_
  refine e_iadd (dx D_law3 26 rfl) ?_
  refine e_sld (dx D_law3 27 rfl) (hvs hL hi 1 (by omega)) ?_
  refine e_callVi (rest := [.int r]) [.int (xs (nI i + nI 1).toNatClampNeg)] (dx D_law3 28 rfl) ln_law_law_55 rfl rfl rfl (Nat.le_of_ble_eq_true rfl) h1 (fun r' g2 h2 => ?_)
  obtain ⟨rfl, hR2⟩ := h2
  exact e_icmp_eq (tgt := 1315) (dx D_law3 29 rfl) (by decide) (fun _ => hn g2 hR2) (fun hc => absurd rfl hc)
theorem lc_10 {L : Nat} {xs : Nat → Int32} {i : Nat} {g : Sg} (hL : L ≤ 384) (hi : i + 6 ≤ L) (hR : Rel g) (hn : Nxt L xs i) : Wp Mlaw_law (Elw L xs) 420 (LLw (nI i)) [] g QLw := by
  refine e_aload_n (dx D_law3 32 rfl) rfl ?_
  refine e_callVi (Q1 := fun r g1 => Cm_judged  g1 (fun r' g2 => r = r' ∧ Rel g2)) (rest := []) [] (dx D_law3 33 rfl) ln_law_law_56 rfl rfl rfl (Nat.le_of_ble_eq_true rfl) (op_judged hR (fun r g' h => ⟨rfl, h⟩)) (fun r g1 h1 => ?_)
  refine e_aload_n (dx D_law3 34 rfl) rfl ?_
  refine e_callVi (rest := [.int r]) [] (dx D_law3 35 rfl) ln_law_law_59 rfl rfl rfl (Nat.le_of_ble_eq_true rfl) h1 (fun r' g2 h2 => ?_)
  obtain ⟨rfl, hR2⟩ := h2
  exact e_icmp_eq (tgt := 1315) (dx D_law3 36 rfl) (by decide) (fun _ => hn g2 hR2) (fun hc => absurd rfl hc)
theorem lc_11 {L : Nat} {xs : Nat → Int32} {i : Nat} {g : Sg} (hL : L ≤ 384) (hi : i + 6 ≤ L) (hR : Rel g) (hn : Nxt L xs i) : Wp Mlaw_law (Elw L xs) 433 (LLw (nI i)) [] g QLw := by
  refine e_aload_n (dx D_law3 39 rfl) rfl ?_
  refine e_aload_n (dx D_law3 40 rfl) rfl ?_
  refine e_iload_n (dx D_law3 41 rfl) rfl ?_
  refine q_iconst (v := nI 1) (dx D_law3 42 rfl) (by decide) ?_
  refine e_iadd (dx D_law3 43 rfl) ?_
  refine e_sld (dx D_law3 44 rfl) (hvs hL hi 1 (by omega)) ?_
  refine e_aload_n (dx D_law3 45 rfl) rfl ?_
  refine e_iload_n (dx D_law3 46 rfl) rfl ?_
  refine q_iconst (v := nI 2) (dx D_law3 47 rfl) (by decide) ?_
  refine e_iadd (dx D_law3 48 rfl) ?_
  refine e_sld (dx D_law3 49 rfl) (hvs hL hi 2 (by omega)) ?_
  refine e_callVi (Q1 := fun r g1 => Cm_state (xs (nI i + nI 1).toNatClampNeg) (xs (nI i + nI 2).toNatClampNeg) g1 (fun r' g2 => r = r' ∧ Rel g2)) (rest := []) [.int (xs (nI i + nI 1).toNatClampNeg), .int (xs (nI i + nI 2).toNatClampNeg)] (dx D_law4 0 rfl) ln_law_law_60 rfl rfl rfl (Nat.le_of_ble_eq_true rfl) (op_state hR (fun r g' h => ⟨rfl, h⟩)) (fun r g1 h1 => ?_)
  refine e_aload_n (dx D_law4 1 rfl) rfl ?_
  refine e_aload_n (dx D_law4 2 rfl) rfl ?_
  refine e_iload_n (dx D_law4 3 rfl) rfl ?_
  refine q_iconst (v := nI 1) (dx D_law4 4 rfl) (by decide) ?_
  refine e_iadd (dx D_law4 5 rfl) ?_
  refine e_sld (dx D_law4 6 rfl) (hvs hL hi 1 (by omega)) ?_
  refine e_aload_n (dx D_law4 7 rfl) rfl ?_
  refine e_iload_n (dx D_law4 8 rfl) rfl ?_
  refine q_iconst (v := nI 2) (dx D_law4 9 rfl) (by decide) ?_
  refine e_iadd (dx D_law4 10 rfl) ?_
  refine e_sld (dx D_law4 11 rfl) (hvs hL hi 2 (by omega)) ?_
  refine e_callVi (rest := [.int r]) [.int (xs (nI i + nI 1).toNatClampNeg), .int (xs (nI i + nI 2).toNatClampNeg)] (dx D_law4 12 rfl) ln_law_law_63 rfl rfl rfl (Nat.le_of_ble_eq_true rfl) h1 (fun r' g2 h2 => ?_)
  obtain ⟨rfl, hR2⟩ := h2
  exact e_icmp_eq (tgt := 1315) (dx D_law4 13 rfl) (by decide) (fun _ => hn g2 hR2) (fun hc => absurd rfl hc)
theorem lc_12 {L : Nat} {xs : Nat → Int32} {i : Nat} {g : Sg} (hL : L ≤ 384) (hi : i + 6 ≤ L) (hR : Rel g) (hn : Nxt L xs i) : Wp Mlaw_law (Elw L xs) 466 (LLw (nI i)) [] g QLw := by
  refine e_aload_n (dx D_law4 16 rfl) rfl ?_
  refine e_aload_n (dx D_law4 17 rfl) rfl ?_
  refine e_iload_n (dx D_law4 18 rfl) rfl ?_
  refine q_iconst (v := nI 1) (dx D_law4 19 rfl) (by decide) ?_
  refine e_iadd (dx D_law4 20 rfl) ?_
  refine e_sld (dx D_law4 21 rfl) (hvs hL hi 1 (by omega)) ?_
  refine e_aload_n (dx D_law4 22 rfl) rfl ?_
  refine e_iload_n (dx D_law4 23 rfl) rfl ?_
  refine q_iconst (v := nI 2) (dx D_law4 24 rfl) (by decide) ?_
  refine e_iadd (dx D_law4 25 rfl) ?_
  refine e_sld (dx D_law4 26 rfl) (hvs hL hi 2 (by omega)) ?_
  refine e_callVi (Q1 := fun r g1 => Cm_wire (xs (nI i + nI 1).toNatClampNeg) (xs (nI i + nI 2).toNatClampNeg) g1 (fun r' g2 => r = r' ∧ Rel g2)) (rest := []) [.int (xs (nI i + nI 1).toNatClampNeg), .int (xs (nI i + nI 2).toNatClampNeg)] (dx D_law4 27 rfl) ln_law_law_64 rfl rfl rfl (Nat.le_of_ble_eq_true rfl) (op_wire hR (fun r g' h => ⟨rfl, h⟩)) (fun r g1 h1 => ?_)
  refine e_aload_n (dx D_law4 28 rfl) rfl ?_
  refine e_aload_n (dx D_law4 29 rfl) rfl ?_
  refine e_iload_n (dx D_law4 30 rfl) rfl ?_
  refine q_iconst (v := nI 1) (dx D_law4 31 rfl) (by decide) ?_
  refine e_iadd (dx D_law4 32 rfl) ?_
  refine e_sld (dx D_law4 33 rfl) (hvs hL hi 1 (by omega)) ?_
  refine e_aload_n (dx D_law4 34 rfl) rfl ?_
  refine e_iload_n (dx D_law4 35 rfl) rfl ?_
  refine q_iconst (v := nI 2) (dx D_law4 36 rfl) (by decide) ?_
  refine e_iadd (dx D_law4 37 rfl) ?_
  refine e_sld (dx D_law4 38 rfl) (hvs hL hi 2 (by omega)) ?_
  refine e_callVi (rest := [.int r]) [.int (xs (nI i + nI 1).toNatClampNeg), .int (xs (nI i + nI 2).toNatClampNeg)] (dx D_law4 39 rfl) ln_law_law_67 rfl rfl rfl (Nat.le_of_ble_eq_true rfl) h1 (fun r' g2 h2 => ?_)
  obtain ⟨rfl, hR2⟩ := h2
  exact e_icmp_eq (tgt := 1315) (dx D_law4 40 rfl) (by decide) (fun _ => hn g2 hR2) (fun hc => absurd rfl hc)
theorem lc_13 {L : Nat} {xs : Nat → Int32} {i : Nat} {g : Sg} (hL : L ≤ 384) (hi : i + 6 ≤ L) (hR : Rel g) (hn : Nxt L xs i) : Wp Mlaw_law (Elw L xs) 499 (LLw (nI i)) [] g QLw := by
  refine e_aload_n (dx D_law4 43 rfl) rfl ?_
  refine e_aload_n (dx D_law4 44 rfl) rfl ?_
  refine e_iload_n (dx D_law4 45 rfl) rfl ?_
  refine q_iconst (v := nI 1) (dx D_law4 46 rfl) (by decide) ?_
  refine e_iadd (dx D_law4 47 rfl) ?_
  refine e_sld (dx D_law4 48 rfl) (hvs hL hi 1 (by omega)) ?_
  refine e_callVi (Q1 := fun r g1 => Cm_out (xs (nI i + nI 1).toNatClampNeg) g1 (fun r' g2 => r = r' ∧ Rel g2)) (rest := []) [.int (xs (nI i + nI 1).toNatClampNeg)] (dx D_law4 49 rfl) ln_law_law_68 rfl rfl rfl (Nat.le_of_ble_eq_true rfl) (op_out hR (fun r g' h => ⟨rfl, h⟩)) (fun r g1 h1 => ?_)
  refine e_aload_n (dx D_law5 0 rfl) rfl ?_
  refine e_aload_n (dx D_law5 1 rfl) rfl ?_
  refine e_iload_n (dx D_law5 2 rfl) rfl ?_
  refine q_iconst (v := nI 1) (dx D_law5 3 rfl) (by decide) ?_
  refine e_iadd (dx D_law5 4 rfl) ?_
  refine e_sld (dx D_law5 5 rfl) (hvs hL hi 1 (by omega)) ?_
  refine e_callVi (rest := [.int r]) [.int (xs (nI i + nI 1).toNatClampNeg)] (dx D_law5 6 rfl) ln_law_law_71 rfl rfl rfl (Nat.le_of_ble_eq_true rfl) h1 (fun r' g2 h2 => ?_)
  obtain ⟨rfl, hR2⟩ := h2
  exact e_icmp_eq (tgt := 1315) (dx D_law5 7 rfl) (by decide) (fun _ => hn g2 hR2) (fun hc => absurd rfl hc)
theorem lc_14 {L : Nat} {xs : Nat → Int32} {i : Nat} {g : Sg} (hL : L ≤ 384) (hi : i + 6 ≤ L) (hR : Rel g) (hn : Nxt L xs i) : Wp Mlaw_law (Elw L xs) 522 (LLw (nI i)) [] g QLw := by
  refine e_aload_n (dx D_law5 10 rfl) rfl ?_
  refine e_aload_n (dx D_law5 11 rfl) rfl ?_
  refine e_iload_n (dx D_law5 12 rfl) rfl ?_
  refine q_iconst (v := nI 1) (dx D_law5 13 rfl) (by decide) ?_
  refine e_iadd (dx D_law5 14 rfl) ?_
  refine e_sld (dx D_law5 15 rfl) (hvs hL hi 1 (by omega)) ?_
  refine e_aload_n (dx D_law5 16 rfl) rfl ?_
  refine e_iload_n (dx D_law5 17 rfl) rfl ?_
  refine q_iconst (v := nI 2) (dx D_law5 18 rfl) (by decide) ?_
  refine e_iadd (dx D_law5 19 rfl) ?_
  refine e_sld (dx D_law5 20 rfl) (hvs hL hi 2 (by omega)) ?_
  refine e_aload_n (dx D_law5 21 rfl) rfl ?_
  refine e_iload_n (dx D_law5 22 rfl) rfl ?_
  refine q_iconst (v := nI 3) (dx D_law5 23 rfl) (by decide) ?_
  refine e_iadd (dx D_law5 24 rfl) ?_
  refine e_sld (dx D_law5 25 rfl) (hvs hL hi 3 (by omega)) ?_
  refine e_callVi (Q1 := fun r g1 => Cm_shortest (xs (nI i + nI 1).toNatClampNeg) (xs (nI i + nI 2).toNatClampNeg) (xs (nI i + nI 3).toNatClampNeg) g1 (fun r' g2 => r = r' ∧ Rel g2)) (rest := []) [.int (xs (nI i + nI 1).toNatClampNeg), .int (xs (nI i + nI 2).toNatClampNeg), .int (xs (nI i + nI 3).toNatClampNeg)] (dx D_law5 26 rfl) ln_law_law_72 rfl rfl rfl (Nat.le_of_ble_eq_true rfl) (op_shortest hR (fun r g' h => ⟨rfl, h⟩)) (fun r g1 h1 => ?_)
  refine e_aload_n (dx D_law5 27 rfl) rfl ?_
  refine e_aload_n (dx D_law5 28 rfl) rfl ?_
  refine e_iload_n (dx D_law5 29 rfl) rfl ?_
  refine q_iconst (v := nI 1) (dx D_law5 30 rfl) (by decide) ?_
  refine e_iadd (dx D_law5 31 rfl) ?_
  refine e_sld (dx D_law5 32 rfl) (hvs hL hi 1 (by omega)) ?_
  refine e_aload_n (dx D_law5 33 rfl) rfl ?_
  refine e_iload_n (dx D_law5 34 rfl) rfl ?_
  refine q_iconst (v := nI 2) (dx D_law5 35 rfl) (by decide) ?_
  refine e_iadd (dx D_law5 36 rfl) ?_
  refine e_sld (dx D_law5 37 rfl) (hvs hL hi 2 (by omega)) ?_
  refine e_aload_n (dx D_law5 38 rfl) rfl ?_
  refine e_iload_n (dx D_law5 39 rfl) rfl ?_
  refine q_iconst (v := nI 3) (dx D_law5 40 rfl) (by decide) ?_
  refine e_iadd (dx D_law5 41 rfl) ?_
  refine e_sld (dx D_law5 42 rfl) (hvs hL hi 3 (by omega)) ?_
  refine e_callVi (rest := [.int r]) [.int (xs (nI i + nI 1).toNatClampNeg), .int (xs (nI i + nI 2).toNatClampNeg), .int (xs (nI i + nI 3).toNatClampNeg)] (dx D_law5 43 rfl) ln_law_law_76 rfl rfl rfl (Nat.le_of_ble_eq_true rfl) h1 (fun r' g2 h2 => ?_)
  obtain ⟨rfl, hR2⟩ := h2
  exact e_icmp_eq (tgt := 1315) (dx D_law5 44 rfl) (by decide) (fun _ => hn g2 hR2) (fun hc => absurd rfl hc)
theorem lc_15 {L : Nat} {xs : Nat → Int32} {i : Nat} {g : Sg} (hL : L ≤ 384) (hi : i + 6 ≤ L) (hR : Rel g) (hn : Nxt L xs i) : Wp Mlaw_law (Elw L xs) 565 (LLw (nI i)) [] g QLw := by
  refine e_aload_n (dx D_law5 47 rfl) rfl ?_
  refine e_aload_n (dx D_law5 48 rfl) rfl ?_
  refine e_iload_n (dx D_law5 49 rfl) rfl ?_
  refine q_iconst (v := nI 1) (dx D_law6 0 rfl) (by decide) ?_
  refine e_iadd (dx D_law6 1 rfl) ?_
  refine e_sld (dx D_law6 2 rfl) (hvs hL hi 1 (by omega)) ?_
  refine e_aload_n (dx D_law6 3 rfl) rfl ?_
  refine e_iload_n (dx D_law6 4 rfl) rfl ?_
  refine q_iconst (v := nI 2) (dx D_law6 5 rfl) (by decide) ?_
  refine e_iadd (dx D_law6 6 rfl) ?_
  refine e_sld (dx D_law6 7 rfl) (hvs hL hi 2 (by omega)) ?_
  refine e_aload_n (dx D_law6 8 rfl) rfl ?_
  refine e_iload_n (dx D_law6 9 rfl) rfl ?_
  refine q_iconst (v := nI 3) (dx D_law6 10 rfl) (by decide) ?_
  refine e_iadd (dx D_law6 11 rfl) ?_
  refine e_sld (dx D_law6 12 rfl) (hvs hL hi 3 (by omega)) ?_
  refine e_callVi (Q1 := fun r g1 => Cm_most (xs (nI i + nI 1).toNatClampNeg) (xs (nI i + nI 2).toNatClampNeg) (xs (nI i + nI 3).toNatClampNeg) g1 (fun r' g2 => r = r' ∧ Rel g2)) (rest := []) [.int (xs (nI i + nI 1).toNatClampNeg), .int (xs (nI i + nI 2).toNatClampNeg), .int (xs (nI i + nI 3).toNatClampNeg)] (dx D_law6 13 rfl) ln_law_law_77 rfl rfl rfl (Nat.le_of_ble_eq_true rfl) (op_most hR (fun r g' h => ⟨rfl, h⟩)) (fun r g1 h1 => ?_)
  refine e_aload_n (dx D_law6 14 rfl) rfl ?_
  refine e_aload_n (dx D_law6 15 rfl) rfl ?_
  refine e_iload_n (dx D_law6 16 rfl) rfl ?_
  refine q_iconst (v := nI 1) (dx D_law6 17 rfl) (by decide) ?_
  refine e_iadd (dx D_law6 18 rfl) ?_
  refine e_sld (dx D_law6 19 rfl) (hvs hL hi 1 (by omega)) ?_
  refine e_aload_n (dx D_law6 20 rfl) rfl ?_
  refine e_iload_n (dx D_law6 21 rfl) rfl ?_
  refine q_iconst (v := nI 2) (dx D_law6 22 rfl) (by decide) ?_
  refine e_iadd (dx D_law6 23 rfl) ?_
  refine e_sld (dx D_law6 24 rfl) (hvs hL hi 2 (by omega)) ?_
  refine e_aload_n (dx D_law6 25 rfl) rfl ?_
  refine e_iload_n (dx D_law6 26 rfl) rfl ?_
  refine q_iconst (v := nI 3) (dx D_law6 27 rfl) (by decide) ?_
  refine e_iadd (dx D_law6 28 rfl) ?_
  refine e_sld (dx D_law6 29 rfl) (hvs hL hi 3 (by omega)) ?_
  refine e_callVi (rest := [.int r]) [.int (xs (nI i + nI 1).toNatClampNeg), .int (xs (nI i + nI 2).toNatClampNeg), .int (xs (nI i + nI 3).toNatClampNeg)] (dx D_law6 30 rfl) ln_law_law_80 rfl rfl rfl (Nat.le_of_ble_eq_true rfl) h1 (fun r' g2 h2 => ?_)
  obtain ⟨rfl, hR2⟩ := h2
  exact e_icmp_eq (tgt := 1315) (dx D_law6 31 rfl) (by decide) (fun _ => hn g2 hR2) (fun hc => absurd rfl hc)
theorem lc_16 {L : Nat} {xs : Nat → Int32} {i : Nat} {g : Sg} (hL : L ≤ 384) (hi : i + 6 ≤ L) (hR : Rel g) (hn : Nxt L xs i) : Wp Mlaw_law (Elw L xs) 608 (LLw (nI i)) [] g QLw := by
  refine e_aload_n (dx D_law6 34 rfl) rfl ?_
  refine e_aload_n (dx D_law6 35 rfl) rfl ?_
  refine e_iload_n (dx D_law6 36 rfl) rfl ?_
  refine q_iconst (v := nI 1) (dx D_law6 37 rfl) (by decide) ?_
  refine e_iadd (dx D_law6 38 rfl) ?_
  refine e_sld (dx D_law6 39 rfl) (hvs hL hi 1 (by omega)) ?_
  refine e_callVi (Q1 := fun r g1 => Cm_fails (xs (nI i + nI 1).toNatClampNeg) g1 (fun r' g2 => r = r' ∧ Rel g2)) (rest := []) [.int (xs (nI i + nI 1).toNatClampNeg)] (dx D_law6 40 rfl) ln_law_law_81 rfl rfl rfl (Nat.le_of_ble_eq_true rfl) (op_fails hR (fun r g' h => ⟨rfl, h⟩)) (fun r g1 h1 => ?_)
  refine e_aload_n (dx D_law6 41 rfl) rfl ?_
  refine e_aload_n (dx D_law6 42 rfl) rfl ?_
  refine e_iload_n (dx D_law6 43 rfl) rfl ?_
  refine q_iconst (v := nI 1) (dx D_law6 44 rfl) (by decide) ?_
  refine e_iadd (dx D_law6 45 rfl) ?_
  refine e_sld (dx D_law6 46 rfl) (hvs hL hi 1 (by omega)) ?_
  refine e_callVi (rest := [.int r]) [.int (xs (nI i + nI 1).toNatClampNeg)] (dx D_law6 47 rfl) ln_law_law_84 rfl rfl rfl (Nat.le_of_ble_eq_true rfl) h1 (fun r' g2 h2 => ?_)
  obtain ⟨rfl, hR2⟩ := h2
  exact e_icmp_eq (tgt := 1315) (dx D_law6 48 rfl) (by decide) (fun _ => hn g2 hR2) (fun hc => absurd rfl hc)
theorem lc_17 {L : Nat} {xs : Nat → Int32} {i : Nat} {g : Sg} (hL : L ≤ 384) (hi : i + 6 ≤ L) (hR : Rel g) (hn : Nxt L xs i) : Wp Mlaw_law (Elw L xs) 631 (LLw (nI i)) [] g QLw := by
  refine e_aload_n (dx D_law7 1 rfl) rfl ?_
  refine e_callVi (Q1 := fun r g1 => Cm_soonest  g1 (fun r' g2 => r = r' ∧ Rel g2)) (rest := []) [] (dx D_law7 2 rfl) ln_law_law_85 rfl rfl rfl (Nat.le_of_ble_eq_true rfl) (op_soonest hR (fun r g' h => ⟨rfl, h⟩)) (fun r g1 h1 => ?_)
  refine e_aload_n (dx D_law7 3 rfl) rfl ?_
  refine e_callVi (rest := [.int r]) [] (dx D_law7 4 rfl) ln_law_law_88 rfl rfl rfl (Nat.le_of_ble_eq_true rfl) h1 (fun r' g2 h2 => ?_)
  obtain ⟨rfl, hR2⟩ := h2
  exact e_icmp_eq (tgt := 1315) (dx D_law7 5 rfl) (by decide) (fun _ => hn g2 hR2) (fun hc => absurd rfl hc)
theorem lc_18 {L : Nat} {xs : Nat → Int32} {i : Nat} {g : Sg} (hL : L ≤ 384) (hi : i + 6 ≤ L) (hR : Rel g) (hn : Nxt L xs i) : Wp Mlaw_law (Elw L xs) 644 (LLw (nI i)) [] g QLw := by
  refine e_aload_n (dx D_law7 8 rfl) rfl ?_
  refine e_aload_n (dx D_law7 9 rfl) rfl ?_
  refine e_iload_n (dx D_law7 10 rfl) rfl ?_
  refine q_iconst (v := nI 1) (dx D_law7 11 rfl) (by decide) ?_
  refine e_iadd (dx D_law7 12 rfl) ?_
  refine e_sld (dx D_law7 13 rfl) (hvs hL hi 1 (by omega)) ?_
  refine e_callVi (Q1 := fun r g1 => Cm_left (xs (nI i + nI 1).toNatClampNeg) g1 (fun r' g2 => r = r' ∧ Rel g2)) (rest := []) [.int (xs (nI i + nI 1).toNatClampNeg)] (dx D_law7 14 rfl) ln_law_law_89 rfl rfl rfl (Nat.le_of_ble_eq_true rfl) (op_left hR (fun r g' h => ⟨rfl, h⟩)) (fun r g1 h1 => ?_)
  refine e_aload_n (dx D_law7 15 rfl) rfl ?_
  refine e_aload_n (dx D_law7 16 rfl) rfl ?_
  refine e_iload_n (dx D_law7 17 rfl) rfl ?_
  refine q_iconst (v := nI 1) (dx D_law7 18 rfl) (by decide) ?_
  refine e_iadd (dx D_law7 19 rfl) ?_
  refine e_sld (dx D_law7 20 rfl) (hvs hL hi 1 (by omega)) ?_
  refine e_callVi (rest := [.int r]) [.int (xs (nI i + nI 1).toNatClampNeg)] (dx D_law7 21 rfl) ln_law_law_92 rfl rfl rfl (Nat.le_of_ble_eq_true rfl) h1 (fun r' g2 h2 => ?_)
  obtain ⟨rfl, hR2⟩ := h2
  exact e_icmp_eq (tgt := 1315) (dx D_law7 22 rfl) (by decide) (fun _ => hn g2 hR2) (fun hc => absurd rfl hc)
theorem lc_19 {L : Nat} {xs : Nat → Int32} {i : Nat} {g : Sg} (hL : L ≤ 384) (hi : i + 6 ≤ L) (hR : Rel g) (hn : Nxt L xs i) : Wp Mlaw_law (Elw L xs) 667 (LLw (nI i)) [] g QLw := by
  refine e_aload_n (dx D_law7 25 rfl) rfl ?_
  refine e_aload_n (dx D_law7 26 rfl) rfl ?_
  refine e_iload_n (dx D_law7 27 rfl) rfl ?_
  refine q_iconst (v := nI 1) (dx D_law7 28 rfl) (by decide) ?_
  refine e_iadd (dx D_law7 29 rfl) ?_
  refine e_sld (dx D_law7 30 rfl) (hvs hL hi 1 (by omega)) ?_
  refine e_callVi (Q1 := fun r g1 => Cm_burns (xs (nI i + nI 1).toNatClampNeg) g1 (fun r' g2 => r = r' ∧ Rel g2)) (rest := []) [.int (xs (nI i + nI 1).toNatClampNeg)] (dx D_law7 31 rfl) ln_law_law_93 rfl rfl rfl (Nat.le_of_ble_eq_true rfl) (op_burns hR (fun r g' h => ⟨rfl, h⟩)) (fun r g1 h1 => ?_)
  refine e_aload_n (dx D_law7 32 rfl) rfl ?_
  refine e_aload_n (dx D_law7 33 rfl) rfl ?_
  refine e_iload_n (dx D_law7 34 rfl) rfl ?_
  refine q_iconst (v := nI 1) (dx D_law7 35 rfl) (by decide) ?_
  refine e_iadd (dx D_law7 36 rfl) ?_
  refine e_sld (dx D_law7 37 rfl) (hvs hL hi 1 (by omega)) ?_
  refine e_callVi (rest := [.int r]) [.int (xs (nI i + nI 1).toNatClampNeg)] (dx D_law7 38 rfl) ln_law_law_96 rfl rfl rfl (Nat.le_of_ble_eq_true rfl) h1 (fun r' g2 h2 => ?_)
  obtain ⟨rfl, hR2⟩ := h2
  exact e_icmp_eq (tgt := 1315) (dx D_law7 39 rfl) (by decide) (fun _ => hn g2 hR2) (fun hc => absurd rfl hc)
theorem lc_20 {L : Nat} {xs : Nat → Int32} {i : Nat} {g : Sg} (hL : L ≤ 384) (hi : i + 6 ≤ L) (hR : Rel g) (hn : Nxt L xs i) : Wp Mlaw_law (Elw L xs) 690 (LLw (nI i)) [] g QLw := by
  refine e_aload_n (dx D_law7 42 rfl) rfl ?_
  refine e_aload_n (dx D_law7 43 rfl) rfl ?_
  refine e_iload_n (dx D_law7 44 rfl) rfl ?_
  refine q_iconst (v := nI 1) (dx D_law7 45 rfl) (by decide) ?_
  refine e_iadd (dx D_law7 46 rfl) ?_
  refine e_sld (dx D_law7 47 rfl) (hvs hL hi 1 (by omega)) ?_
  refine e_aload_n (dx D_law7 48 rfl) rfl ?_
  refine e_iload_n (dx D_law7 49 rfl) rfl ?_
  refine q_iconst (v := nI 2) (dx D_law8 0 rfl) (by decide) ?_
  refine e_iadd (dx D_law8 1 rfl) ?_
  refine e_sld (dx D_law8 2 rfl) (hvs hL hi 2 (by omega)) ?_
  refine e_callVi (Q1 := fun r g1 => Cm_lit (xs (nI i + nI 1).toNatClampNeg) (xs (nI i + nI 2).toNatClampNeg) g1 (fun r' g2 => r = r' ∧ Rel g2)) (rest := []) [.int (xs (nI i + nI 1).toNatClampNeg), .int (xs (nI i + nI 2).toNatClampNeg)] (dx D_law8 3 rfl) ln_law_law_97 rfl rfl rfl (Nat.le_of_ble_eq_true rfl) (op_lit hR (fun r g' h => ⟨rfl, h⟩)) (fun r g1 h1 => ?_)
  refine e_aload_n (dx D_law8 4 rfl) rfl ?_
  refine e_aload_n (dx D_law8 5 rfl) rfl ?_
  refine e_iload_n (dx D_law8 6 rfl) rfl ?_
  refine q_iconst (v := nI 1) (dx D_law8 7 rfl) (by decide) ?_
  refine e_iadd (dx D_law8 8 rfl) ?_
  refine e_sld (dx D_law8 9 rfl) (hvs hL hi 1 (by omega)) ?_
  refine e_aload_n (dx D_law8 10 rfl) rfl ?_
  refine e_iload_n (dx D_law8 11 rfl) rfl ?_
  refine q_iconst (v := nI 2) (dx D_law8 12 rfl) (by decide) ?_
  refine e_iadd (dx D_law8 13 rfl) ?_
  refine e_sld (dx D_law8 14 rfl) (hvs hL hi 2 (by omega)) ?_
  refine e_callVi (rest := [.int r]) [.int (xs (nI i + nI 1).toNatClampNeg), .int (xs (nI i + nI 2).toNatClampNeg)] (dx D_law8 15 rfl) ln_law_law_100 rfl rfl rfl (Nat.le_of_ble_eq_true rfl) h1 (fun r' g2 h2 => ?_)
  obtain ⟨rfl, hR2⟩ := h2
  exact e_icmp_eq (tgt := 1315) (dx D_law8 16 rfl) (by decide) (fun _ => hn g2 hR2) (fun hc => absurd rfl hc)
theorem lc_21 {L : Nat} {xs : Nat → Int32} {i : Nat} {g : Sg} (hL : L ≤ 384) (hi : i + 6 ≤ L) (hR : Rel g) (hn : Nxt L xs i) : Wp Mlaw_law (Elw L xs) 723 (LLw (nI i)) [] g QLw := by
  refine e_aload_n (dx D_law8 19 rfl) rfl ?_
  refine e_aload_n (dx D_law8 20 rfl) rfl ?_
  refine e_iload_n (dx D_law8 21 rfl) rfl ?_
  refine q_iconst (v := nI 1) (dx D_law8 22 rfl) (by decide) ?_
  refine e_iadd (dx D_law8 23 rfl) ?_
  refine e_sld (dx D_law8 24 rfl) (hvs hL hi 1 (by omega)) ?_
  refine e_aload_n (dx D_law8 25 rfl) rfl ?_
  refine e_iload_n (dx D_law8 26 rfl) rfl ?_
  refine q_iconst (v := nI 2) (dx D_law8 27 rfl) (by decide) ?_
  refine e_iadd (dx D_law8 28 rfl) ?_
  refine e_sld (dx D_law8 29 rfl) (hvs hL hi 2 (by omega)) ?_
  refine e_aload_n (dx D_law8 30 rfl) rfl ?_
  refine e_iload_n (dx D_law8 31 rfl) rfl ?_
  refine q_iconst (v := nI 3) (dx D_law8 32 rfl) (by decide) ?_
  refine e_iadd (dx D_law8 33 rfl) ?_
  refine e_sld (dx D_law8 34 rfl) (hvs hL hi 3 (by omega)) ?_
  refine e_callVi (Q1 := fun r g1 => Cm_heard (xs (nI i + nI 1).toNatClampNeg) (xs (nI i + nI 2).toNatClampNeg) (xs (nI i + nI 3).toNatClampNeg) g1 (fun r' g2 => r = r' ∧ Rel g2)) (rest := []) [.int (xs (nI i + nI 1).toNatClampNeg), .int (xs (nI i + nI 2).toNatClampNeg), .int (xs (nI i + nI 3).toNatClampNeg)] (dx D_law8 35 rfl) ln_law_law_101 rfl rfl rfl (Nat.le_of_ble_eq_true rfl) (op_heard hR (fun r g' h => ⟨rfl, h⟩)) (fun r g1 h1 => ?_)
  refine e_aload_n (dx D_law8 36 rfl) rfl ?_
  refine e_aload_n (dx D_law8 37 rfl) rfl ?_
  refine e_iload_n (dx D_law8 38 rfl) rfl ?_
  refine q_iconst (v := nI 1) (dx D_law8 39 rfl) (by decide) ?_
  refine e_iadd (dx D_law8 40 rfl) ?_
  refine e_sld (dx D_law8 41 rfl) (hvs hL hi 1 (by omega)) ?_
  refine e_aload_n (dx D_law8 42 rfl) rfl ?_
  refine e_iload_n (dx D_law8 43 rfl) rfl ?_
  refine q_iconst (v := nI 2) (dx D_law8 44 rfl) (by decide) ?_
  refine e_iadd (dx D_law8 45 rfl) ?_
  refine e_sld (dx D_law8 46 rfl) (hvs hL hi 2 (by omega)) ?_
  refine e_aload_n (dx D_law8 47 rfl) rfl ?_
  refine e_iload_n (dx D_law8 48 rfl) rfl ?_
  refine q_iconst (v := nI 3) (dx D_law8 49 rfl) (by decide) ?_
  refine e_iadd (dx D_law9 0 rfl) ?_
  refine e_sld (dx D_law9 1 rfl) (hvs hL hi 3 (by omega)) ?_
  refine e_callVi (rest := [.int r]) [.int (xs (nI i + nI 1).toNatClampNeg), .int (xs (nI i + nI 2).toNatClampNeg), .int (xs (nI i + nI 3).toNatClampNeg)] (dx D_law9 2 rfl) ln_law_law_104 rfl rfl rfl (Nat.le_of_ble_eq_true rfl) h1 (fun r' g2 h2 => ?_)
  obtain ⟨rfl, hR2⟩ := h2
  exact e_icmp_eq (tgt := 1315) (dx D_law9 3 rfl) (by decide) (fun _ => hn g2 hR2) (fun hc => absurd rfl hc)
theorem lc_22 {L : Nat} {xs : Nat → Int32} {i : Nat} {g : Sg} (hL : L ≤ 384) (hi : i + 6 ≤ L) (hR : Rel g) (hn : Nxt L xs i) : Wp Mlaw_law (Elw L xs) 766 (LLw (nI i)) [] g QLw := by
  refine e_aload_n (dx D_law9 6 rfl) rfl ?_
  refine e_aload_n (dx D_law9 7 rfl) rfl ?_
  refine e_iload_n (dx D_law9 8 rfl) rfl ?_
  refine q_iconst (v := nI 1) (dx D_law9 9 rfl) (by decide) ?_
  refine e_iadd (dx D_law9 10 rfl) ?_
  refine e_sld (dx D_law9 11 rfl) (hvs hL hi 1 (by omega)) ?_
  refine e_aload_n (dx D_law9 12 rfl) rfl ?_
  refine e_iload_n (dx D_law9 13 rfl) rfl ?_
  refine q_iconst (v := nI 2) (dx D_law9 14 rfl) (by decide) ?_
  refine e_iadd (dx D_law9 15 rfl) ?_
  refine e_sld (dx D_law9 16 rfl) (hvs hL hi 2 (by omega)) ?_
  refine e_aload_n (dx D_law9 17 rfl) rfl ?_
  refine e_iload_n (dx D_law9 18 rfl) rfl ?_
  refine q_iconst (v := nI 3) (dx D_law9 19 rfl) (by decide) ?_
  refine e_iadd (dx D_law9 20 rfl) ?_
  refine e_sld (dx D_law9 21 rfl) (hvs hL hi 3 (by omega)) ?_
  refine e_aload_n (dx D_law9 22 rfl) rfl ?_
  refine e_iload_n (dx D_law9 23 rfl) rfl ?_
  refine q_iconst (v := nI 4) (dx D_law9 24 rfl) (by decide) ?_
  refine e_iadd (dx D_law9 25 rfl) ?_
  refine e_sld (dx D_law9 26 rfl) (hvs hL hi 4 (by omega)) ?_
  refine e_callVi (Q1 := fun r g1 => Cm_meet (xs (nI i + nI 1).toNatClampNeg) (xs (nI i + nI 2).toNatClampNeg) (xs (nI i + nI 3).toNatClampNeg) (xs (nI i + nI 4).toNatClampNeg) g1 (fun r' g2 => r = r' ∧ Rel g2)) (rest := []) [.int (xs (nI i + nI 1).toNatClampNeg), .int (xs (nI i + nI 2).toNatClampNeg), .int (xs (nI i + nI 3).toNatClampNeg), .int (xs (nI i + nI 4).toNatClampNeg)] (dx D_law9 27 rfl) ln_law_law_105 rfl rfl rfl (Nat.le_of_ble_eq_true rfl) (op_meet hR (fun r g' h => ⟨rfl, h⟩)) (fun r g1 h1 => ?_)
  refine e_aload_n (dx D_law9 28 rfl) rfl ?_
  refine e_aload_n (dx D_law9 29 rfl) rfl ?_
  refine e_iload_n (dx D_law9 30 rfl) rfl ?_
  refine q_iconst (v := nI 1) (dx D_law9 31 rfl) (by decide) ?_
  refine e_iadd (dx D_law9 32 rfl) ?_
  refine e_sld (dx D_law9 33 rfl) (hvs hL hi 1 (by omega)) ?_
  refine e_aload_n (dx D_law9 34 rfl) rfl ?_
  refine e_iload_n (dx D_law9 35 rfl) rfl ?_
  refine q_iconst (v := nI 2) (dx D_law9 36 rfl) (by decide) ?_
  refine e_iadd (dx D_law9 37 rfl) ?_
  refine e_sld (dx D_law9 38 rfl) (hvs hL hi 2 (by omega)) ?_
  refine e_aload_n (dx D_law9 39 rfl) rfl ?_
  refine e_iload_n (dx D_law9 40 rfl) rfl ?_
  refine q_iconst (v := nI 3) (dx D_law9 41 rfl) (by decide) ?_
  refine e_iadd (dx D_law9 42 rfl) ?_
  refine e_sld (dx D_law9 43 rfl) (hvs hL hi 3 (by omega)) ?_
  refine e_aload_n (dx D_law9 44 rfl) rfl ?_
  refine e_iload_n (dx D_law9 45 rfl) rfl ?_
  refine q_iconst (v := nI 4) (dx D_law9 46 rfl) (by decide) ?_
  refine e_iadd (dx D_law9 47 rfl) ?_
  refine e_sld (dx D_law9 48 rfl) (hvs hL hi 4 (by omega)) ?_
  refine e_callVi (rest := [.int r]) [.int (xs (nI i + nI 1).toNatClampNeg), .int (xs (nI i + nI 2).toNatClampNeg), .int (xs (nI i + nI 3).toNatClampNeg), .int (xs (nI i + nI 4).toNatClampNeg)] (dx D_law9 49 rfl) ln_law_law_109 rfl rfl rfl (Nat.le_of_ble_eq_true rfl) h1 (fun r' g2 h2 => ?_)
  obtain ⟨rfl, hR2⟩ := h2
  exact e_icmp_eq (tgt := 1315) (dx D_law10 0 rfl) (by decide) (fun _ => hn g2 hR2) (fun hc => absurd rfl hc)
theorem lc_23 {L : Nat} {xs : Nat → Int32} {i : Nat} {g : Sg} (hL : L ≤ 384) (hi : i + 6 ≤ L) (hR : Rel g) (hn : Nxt L xs i) : Wp Mlaw_law (Elw L xs) 819 (LLw (nI i)) [] g QLw := by
  refine e_aload_n (dx D_law10 3 rfl) rfl ?_
  refine e_aload_n (dx D_law10 4 rfl) rfl ?_
  refine e_iload_n (dx D_law10 5 rfl) rfl ?_
  refine q_iconst (v := nI 1) (dx D_law10 6 rfl) (by decide) ?_
  refine e_iadd (dx D_law10 7 rfl) ?_
  refine e_sld (dx D_law10 8 rfl) (hvs hL hi 1 (by omega)) ?_
  refine e_aload_n (dx D_law10 9 rfl) rfl ?_
  refine e_iload_n (dx D_law10 10 rfl) rfl ?_
  refine q_iconst (v := nI 2) (dx D_law10 11 rfl) (by decide) ?_
  refine e_iadd (dx D_law10 12 rfl) ?_
  refine e_sld (dx D_law10 13 rfl) (hvs hL hi 2 (by omega)) ?_
  refine e_aload_n (dx D_law10 14 rfl) rfl ?_
  refine e_iload_n (dx D_law10 15 rfl) rfl ?_
  refine q_iconst (v := nI 3) (dx D_law10 16 rfl) (by decide) ?_
  refine e_iadd (dx D_law10 17 rfl) ?_
  refine e_sld (dx D_law10 18 rfl) (hvs hL hi 3 (by omega)) ?_
  refine e_callVi (Q1 := fun r g1 => Cm_drowsy (xs (nI i + nI 1).toNatClampNeg) (xs (nI i + nI 2).toNatClampNeg) (xs (nI i + nI 3).toNatClampNeg) g1 (fun r' g2 => r = r' ∧ Rel g2)) (rest := []) [.int (xs (nI i + nI 1).toNatClampNeg), .int (xs (nI i + nI 2).toNatClampNeg), .int (xs (nI i + nI 3).toNatClampNeg)] (dx D_law10 19 rfl) ln_law_law_110 rfl rfl rfl (Nat.le_of_ble_eq_true rfl) (op_drowsy hR (fun r g' h => ⟨rfl, h⟩)) (fun r g1 h1 => ?_)
  refine e_aload_n (dx D_law10 20 rfl) rfl ?_
  refine e_aload_n (dx D_law10 21 rfl) rfl ?_
  refine e_iload_n (dx D_law10 22 rfl) rfl ?_
  refine q_iconst (v := nI 1) (dx D_law10 23 rfl) (by decide) ?_
  refine e_iadd (dx D_law10 24 rfl) ?_
  refine e_sld (dx D_law10 25 rfl) (hvs hL hi 1 (by omega)) ?_
  refine e_aload_n (dx D_law10 26 rfl) rfl ?_
  refine e_iload_n (dx D_law10 27 rfl) rfl ?_
  refine q_iconst (v := nI 2) (dx D_law10 28 rfl) (by decide) ?_
  refine e_iadd (dx D_law10 29 rfl) ?_
  refine e_sld (dx D_law10 30 rfl) (hvs hL hi 2 (by omega)) ?_
  refine e_aload_n (dx D_law10 31 rfl) rfl ?_
  refine e_iload_n (dx D_law10 32 rfl) rfl ?_
  refine q_iconst (v := nI 3) (dx D_law10 33 rfl) (by decide) ?_
  refine e_iadd (dx D_law10 34 rfl) ?_
  refine e_sld (dx D_law10 35 rfl) (hvs hL hi 3 (by omega)) ?_
  refine e_callVi (rest := [.int r]) [.int (xs (nI i + nI 1).toNatClampNeg), .int (xs (nI i + nI 2).toNatClampNeg), .int (xs (nI i + nI 3).toNatClampNeg)] (dx D_law10 36 rfl) ln_law_law_113 rfl rfl rfl (Nat.le_of_ble_eq_true rfl) h1 (fun r' g2 h2 => ?_)
  obtain ⟨rfl, hR2⟩ := h2
  exact e_icmp_eq (tgt := 1315) (dx D_law10 37 rfl) (by decide) (fun _ => hn g2 hR2) (fun hc => absurd rfl hc)
theorem lc_24 {L : Nat} {xs : Nat → Int32} {i : Nat} {g : Sg} (hL : L ≤ 384) (hi : i + 6 ≤ L) (hR : Rel g) (hn : Nxt L xs i) : Wp Mlaw_law (Elw L xs) 862 (LLw (nI i)) [] g QLw := by
  refine e_aload_n (dx D_law10 40 rfl) rfl ?_
  refine e_aload_n (dx D_law10 41 rfl) rfl ?_
  refine e_iload_n (dx D_law10 42 rfl) rfl ?_
  refine q_iconst (v := nI 1) (dx D_law10 43 rfl) (by decide) ?_
  refine e_iadd (dx D_law10 44 rfl) ?_
  refine e_sld (dx D_law10 45 rfl) (hvs hL hi 1 (by omega)) ?_
  refine e_aload_n (dx D_law10 46 rfl) rfl ?_
  refine e_iload_n (dx D_law10 47 rfl) rfl ?_
  refine q_iconst (v := nI 2) (dx D_law10 48 rfl) (by decide) ?_
  refine e_iadd (dx D_law10 49 rfl) ?_
  refine e_sld (dx D_law11 0 rfl) (hvs hL hi 2 (by omega)) ?_
  refine e_aload_n (dx D_law11 1 rfl) rfl ?_
  refine e_iload_n (dx D_law11 2 rfl) rfl ?_
  refine q_iconst (v := nI 3) (dx D_law11 3 rfl) (by decide) ?_
  refine e_iadd (dx D_law11 4 rfl) ?_
  refine e_sld (dx D_law11 5 rfl) (hvs hL hi 3 (by omega)) ?_
  refine e_callVi (Q1 := fun r g1 => Cm_chalk (xs (nI i + nI 1).toNatClampNeg) (xs (nI i + nI 2).toNatClampNeg) (xs (nI i + nI 3).toNatClampNeg) g1 (fun r' g2 => r = r' ∧ Rel g2)) (rest := []) [.int (xs (nI i + nI 1).toNatClampNeg), .int (xs (nI i + nI 2).toNatClampNeg), .int (xs (nI i + nI 3).toNatClampNeg)] (dx D_law11 6 rfl) ln_law_law_114 rfl rfl rfl (Nat.le_of_ble_eq_true rfl) (op_chalk hR (fun r g' h => ⟨rfl, h⟩)) (fun r g1 h1 => ?_)
  refine e_aload_n (dx D_law11 7 rfl) rfl ?_
  refine e_aload_n (dx D_law11 8 rfl) rfl ?_
  refine e_iload_n (dx D_law11 9 rfl) rfl ?_
  refine q_iconst (v := nI 1) (dx D_law11 10 rfl) (by decide) ?_
  refine e_iadd (dx D_law11 11 rfl) ?_
  refine e_sld (dx D_law11 12 rfl) (hvs hL hi 1 (by omega)) ?_
  refine e_aload_n (dx D_law11 13 rfl) rfl ?_
  refine e_iload_n (dx D_law11 14 rfl) rfl ?_
  refine q_iconst (v := nI 2) (dx D_law11 15 rfl) (by decide) ?_
  refine e_iadd (dx D_law11 16 rfl) ?_
  refine e_sld (dx D_law11 17 rfl) (hvs hL hi 2 (by omega)) ?_
  refine e_aload_n (dx D_law11 18 rfl) rfl ?_
  refine e_iload_n (dx D_law11 19 rfl) rfl ?_
  refine q_iconst (v := nI 3) (dx D_law11 20 rfl) (by decide) ?_
  refine e_iadd (dx D_law11 21 rfl) ?_
  refine e_sld (dx D_law11 22 rfl) (hvs hL hi 3 (by omega)) ?_
  refine e_callVi (rest := [.int r]) [.int (xs (nI i + nI 1).toNatClampNeg), .int (xs (nI i + nI 2).toNatClampNeg), .int (xs (nI i + nI 3).toNatClampNeg)] (dx D_law11 23 rfl) ln_law_law_117 rfl rfl rfl (Nat.le_of_ble_eq_true rfl) h1 (fun r' g2 h2 => ?_)
  obtain ⟨rfl, hR2⟩ := h2
  exact e_icmp_eq (tgt := 1315) (dx D_law11 24 rfl) (by decide) (fun _ => hn g2 hR2) (fun hc => absurd rfl hc)
theorem lc_25 {L : Nat} {xs : Nat → Int32} {i : Nat} {g : Sg} (hL : L ≤ 384) (hi : i + 6 ≤ L) (hR : Rel g) (hn : Nxt L xs i) : Wp Mlaw_law (Elw L xs) 905 (LLw (nI i)) [] g QLw := by
  refine e_aload_n (dx D_law11 27 rfl) rfl ?_
  refine e_callVi (Q1 := fun r g1 => Cm_lies  g1 (fun r' g2 => r = r' ∧ Rel g2)) (rest := []) [] (dx D_law11 28 rfl) ln_law_law_118 rfl rfl rfl (Nat.le_of_ble_eq_true rfl) (op_lies hR (fun r g' h => ⟨rfl, h⟩)) (fun r g1 h1 => ?_)
  refine e_aload_n (dx D_law11 29 rfl) rfl ?_
  refine e_callVi (rest := [.int r]) [] (dx D_law11 30 rfl) ln_law_law_121 rfl rfl rfl (Nat.le_of_ble_eq_true rfl) h1 (fun r' g2 h2 => ?_)
  obtain ⟨rfl, hR2⟩ := h2
  exact e_icmp_eq (tgt := 1315) (dx D_law11 31 rfl) (by decide) (fun _ => hn g2 hR2) (fun hc => absurd rfl hc)
theorem lc_26 {L : Nat} {xs : Nat → Int32} {i : Nat} {g : Sg} (hL : L ≤ 384) (hi : i + 6 ≤ L) (hR : Rel g) (hn : Nxt L xs i) : Wp Mlaw_law (Elw L xs) 918 (LLw (nI i)) [] g QLw := by
  refine e_aload_n (dx D_law11 34 rfl) rfl ?_
  refine e_aload_n (dx D_law11 35 rfl) rfl ?_
  refine e_iload_n (dx D_law11 36 rfl) rfl ?_
  refine q_iconst (v := nI 1) (dx D_law11 37 rfl) (by decide) ?_
  refine e_iadd (dx D_law11 38 rfl) ?_
  refine e_sld (dx D_law11 39 rfl) (hvs hL hi 1 (by omega)) ?_
  refine e_callVi (Q1 := fun r g1 => Cm_scene (xs (nI i + nI 1).toNatClampNeg) g1 (fun r' g2 => r = r' ∧ Rel g2)) (rest := []) [.int (xs (nI i + nI 1).toNatClampNeg)] (dx D_law11 40 rfl) ln_law_law_122 rfl rfl rfl (Nat.le_of_ble_eq_true rfl) (op_scene hR (fun r g' h => ⟨rfl, h⟩)) (fun r g1 h1 => ?_)
  refine e_aload_n (dx D_law11 41 rfl) rfl ?_
  refine e_aload_n (dx D_law11 42 rfl) rfl ?_
  refine e_iload_n (dx D_law11 43 rfl) rfl ?_
  refine q_iconst (v := nI 1) (dx D_law11 44 rfl) (by decide) ?_
  refine e_iadd (dx D_law11 45 rfl) ?_
  refine e_sld (dx D_law11 46 rfl) (hvs hL hi 1 (by omega)) ?_
  refine e_callVi (rest := [.int r]) [.int (xs (nI i + nI 1).toNatClampNeg)] (dx D_law11 47 rfl) ln_law_law_125 rfl rfl rfl (Nat.le_of_ble_eq_true rfl) h1 (fun r' g2 h2 => ?_)
  obtain ⟨rfl, hR2⟩ := h2
  exact e_icmp_eq (tgt := 1315) (dx D_law11 48 rfl) (by decide) (fun _ => hn g2 hR2) (fun hc => absurd rfl hc)
theorem lc_27 {L : Nat} {xs : Nat → Int32} {i : Nat} {g : Sg} (hL : L ≤ 384) (hi : i + 6 ≤ L) (hR : Rel g) (hn : Nxt L xs i) : Wp Mlaw_law (Elw L xs) 941 (LLw (nI i)) [] g QLw := by
  refine e_aload_n (dx D_law12 1 rfl) rfl ?_
  refine e_aload_n (dx D_law12 2 rfl) rfl ?_
  refine e_iload_n (dx D_law12 3 rfl) rfl ?_
  refine q_iconst (v := nI 1) (dx D_law12 4 rfl) (by decide) ?_
  refine e_iadd (dx D_law12 5 rfl) ?_
  refine e_sld (dx D_law12 6 rfl) (hvs hL hi 1 (by omega)) ?_
  refine e_callVi (Q1 := fun r g1 => Cm_scenes (xs (nI i + nI 1).toNatClampNeg) g1 (fun r' g2 => r = r' ∧ Rel g2)) (rest := []) [.int (xs (nI i + nI 1).toNatClampNeg)] (dx D_law12 7 rfl) ln_law_law_126 rfl rfl rfl (Nat.le_of_ble_eq_true rfl) (op_scenes hR (fun r g' h => ⟨rfl, h⟩)) (fun r g1 h1 => ?_)
  refine e_aload_n (dx D_law12 8 rfl) rfl ?_
  refine e_aload_n (dx D_law12 9 rfl) rfl ?_
  refine e_iload_n (dx D_law12 10 rfl) rfl ?_
  refine q_iconst (v := nI 1) (dx D_law12 11 rfl) (by decide) ?_
  refine e_iadd (dx D_law12 12 rfl) ?_
  refine e_sld (dx D_law12 13 rfl) (hvs hL hi 1 (by omega)) ?_
  refine e_callVi (rest := [.int r]) [.int (xs (nI i + nI 1).toNatClampNeg)] (dx D_law12 14 rfl) ln_law_law_129 rfl rfl rfl (Nat.le_of_ble_eq_true rfl) h1 (fun r' g2 h2 => ?_)
  obtain ⟨rfl, hR2⟩ := h2
  exact e_icmp_eq (tgt := 1315) (dx D_law12 15 rfl) (by decide) (fun _ => hn g2 hR2) (fun hc => absurd rfl hc)
theorem lc_28 {L : Nat} {xs : Nat → Int32} {i : Nat} {g : Sg} (hL : L ≤ 384) (hi : i + 6 ≤ L) (hR : Rel g) (hn : Nxt L xs i) : Wp Mlaw_law (Elw L xs) 964 (LLw (nI i)) [] g QLw := by
  refine e_aload_n (dx D_law12 18 rfl) rfl ?_
  refine e_aload_n (dx D_law12 19 rfl) rfl ?_
  refine e_iload_n (dx D_law12 20 rfl) rfl ?_
  refine q_iconst (v := nI 1) (dx D_law12 21 rfl) (by decide) ?_
  refine e_iadd (dx D_law12 22 rfl) ?_
  refine e_sld (dx D_law12 23 rfl) (hvs hL hi 1 (by omega)) ?_
  refine e_callVi (Q1 := fun r g1 => Cm_cue (xs (nI i + nI 1).toNatClampNeg) g1 (fun r' g2 => r = r' ∧ Rel g2)) (rest := []) [.int (xs (nI i + nI 1).toNatClampNeg)] (dx D_law12 24 rfl) ln_law_law_130 rfl rfl rfl (Nat.le_of_ble_eq_true rfl) (op_cue hR (fun r g' h => ⟨rfl, h⟩)) (fun r g1 h1 => ?_)
  refine e_aload_n (dx D_law12 25 rfl) rfl ?_
  refine e_aload_n (dx D_law12 26 rfl) rfl ?_
  refine e_iload_n (dx D_law12 27 rfl) rfl ?_
  refine q_iconst (v := nI 1) (dx D_law12 28 rfl) (by decide) ?_
  refine e_iadd (dx D_law12 29 rfl) ?_
  refine e_sld (dx D_law12 30 rfl) (hvs hL hi 1 (by omega)) ?_
  refine e_callVi (rest := [.int r]) [.int (xs (nI i + nI 1).toNatClampNeg)] (dx D_law12 31 rfl) ln_law_law_133 rfl rfl rfl (Nat.le_of_ble_eq_true rfl) h1 (fun r' g2 h2 => ?_)
  obtain ⟨rfl, hR2⟩ := h2
  exact e_icmp_eq (tgt := 1315) (dx D_law12 32 rfl) (by decide) (fun _ => hn g2 hR2) (fun hc => absurd rfl hc)
theorem lc_29 {L : Nat} {xs : Nat → Int32} {i : Nat} {g : Sg} (hL : L ≤ 384) (hi : i + 6 ≤ L) (hR : Rel g) (hn : Nxt L xs i) : Wp Mlaw_law (Elw L xs) 987 (LLw (nI i)) [] g QLw := by
  refine e_aload_n (dx D_law12 35 rfl) rfl ?_
  refine e_aload_n (dx D_law12 36 rfl) rfl ?_
  refine e_iload_n (dx D_law12 37 rfl) rfl ?_
  refine q_iconst (v := nI 1) (dx D_law12 38 rfl) (by decide) ?_
  refine e_iadd (dx D_law12 39 rfl) ?_
  refine e_sld (dx D_law12 40 rfl) (hvs hL hi 1 (by omega)) ?_
  refine e_callVi (Q1 := fun r g1 => Cm_forget (xs (nI i + nI 1).toNatClampNeg) g1 (fun r' g2 => r = r' ∧ Rel g2)) (rest := []) [.int (xs (nI i + nI 1).toNatClampNeg)] (dx D_law12 41 rfl) ln_law_law_134 rfl rfl rfl (Nat.le_of_ble_eq_true rfl) (op_forget hR (fun r g' h => ⟨rfl, h⟩)) (fun r g1 h1 => ?_)
  refine e_aload_n (dx D_law12 42 rfl) rfl ?_
  refine e_aload_n (dx D_law12 43 rfl) rfl ?_
  refine e_iload_n (dx D_law12 44 rfl) rfl ?_
  refine q_iconst (v := nI 1) (dx D_law12 45 rfl) (by decide) ?_
  refine e_iadd (dx D_law12 46 rfl) ?_
  refine e_sld (dx D_law12 47 rfl) (hvs hL hi 1 (by omega)) ?_
  refine e_callVi (rest := [.int r]) [.int (xs (nI i + nI 1).toNatClampNeg)] (dx D_law12 48 rfl) ln_law_law_137 rfl rfl rfl (Nat.le_of_ble_eq_true rfl) h1 (fun r' g2 h2 => ?_)
  obtain ⟨rfl, hR2⟩ := h2
  exact e_icmp_eq (tgt := 1315) (dx D_law12 49 rfl) (by decide) (fun _ => hn g2 hR2) (fun hc => absurd rfl hc)
theorem lc_30 {L : Nat} {xs : Nat → Int32} {i : Nat} {g : Sg} (hL : L ≤ 384) (hi : i + 6 ≤ L) (hR : Rel g) (hn : Nxt L xs i) : Wp Mlaw_law (Elw L xs) 1010 (LLw (nI i)) [] g QLw := by
  refine e_aload_n (dx D_law13 2 rfl) rfl ?_
  refine e_aload_n (dx D_law13 3 rfl) rfl ?_
  refine e_iload_n (dx D_law13 4 rfl) rfl ?_
  refine q_iconst (v := nI 1) (dx D_law13 5 rfl) (by decide) ?_
  refine e_iadd (dx D_law13 6 rfl) ?_
  refine e_sld (dx D_law13 7 rfl) (hvs hL hi 1 (by omega)) ?_
  refine e_aload_n (dx D_law13 8 rfl) rfl ?_
  refine e_iload_n (dx D_law13 9 rfl) rfl ?_
  refine q_iconst (v := nI 2) (dx D_law13 10 rfl) (by decide) ?_
  refine e_iadd (dx D_law13 11 rfl) ?_
  refine e_sld (dx D_law13 12 rfl) (hvs hL hi 2 (by omega)) ?_
  refine e_aload_n (dx D_law13 13 rfl) rfl ?_
  refine e_iload_n (dx D_law13 14 rfl) rfl ?_
  refine q_iconst (v := nI 3) (dx D_law13 15 rfl) (by decide) ?_
  refine e_iadd (dx D_law13 16 rfl) ?_
  refine e_sld (dx D_law13 17 rfl) (hvs hL hi 3 (by omega)) ?_
  refine e_callVi (Q1 := fun r g1 => Cm_sheet (xs (nI i + nI 1).toNatClampNeg) (xs (nI i + nI 2).toNatClampNeg) (xs (nI i + nI 3).toNatClampNeg) g1 (fun r' g2 => r = r' ∧ Rel g2)) (rest := []) [.int (xs (nI i + nI 1).toNatClampNeg), .int (xs (nI i + nI 2).toNatClampNeg), .int (xs (nI i + nI 3).toNatClampNeg)] (dx D_law13 18 rfl) ln_law_law_138 rfl rfl rfl (Nat.le_of_ble_eq_true rfl) (op_sheetR hR (fun r g' h => ⟨rfl, h⟩)) (fun r g1 h1 => ?_)
  refine e_aload_n (dx D_law13 19 rfl) rfl ?_
  refine e_aload_n (dx D_law13 20 rfl) rfl ?_
  refine e_iload_n (dx D_law13 21 rfl) rfl ?_
  refine q_iconst (v := nI 1) (dx D_law13 22 rfl) (by decide) ?_
  refine e_iadd (dx D_law13 23 rfl) ?_
  refine e_sld (dx D_law13 24 rfl) (hvs hL hi 1 (by omega)) ?_
  refine e_aload_n (dx D_law13 25 rfl) rfl ?_
  refine e_iload_n (dx D_law13 26 rfl) rfl ?_
  refine q_iconst (v := nI 2) (dx D_law13 27 rfl) (by decide) ?_
  refine e_iadd (dx D_law13 28 rfl) ?_
  refine e_sld (dx D_law13 29 rfl) (hvs hL hi 2 (by omega)) ?_
  refine e_aload_n (dx D_law13 30 rfl) rfl ?_
  refine e_iload_n (dx D_law13 31 rfl) rfl ?_
  refine q_iconst (v := nI 3) (dx D_law13 32 rfl) (by decide) ?_
  refine e_iadd (dx D_law13 33 rfl) ?_
  refine e_sld (dx D_law13 34 rfl) (hvs hL hi 3 (by omega)) ?_
  refine e_callVi (rest := [.int r]) [.int (xs (nI i + nI 1).toNatClampNeg), .int (xs (nI i + nI 2).toNatClampNeg), .int (xs (nI i + nI 3).toNatClampNeg)] (dx D_law13 35 rfl) ln_law_law_141 rfl rfl rfl (Nat.le_of_ble_eq_true rfl) h1 (fun r' g2 h2 => ?_)
  obtain ⟨rfl, hR2⟩ := h2
  exact e_icmp_eq (tgt := 1315) (dx D_law13 36 rfl) (by decide) (fun _ => hn g2 hR2) (fun hc => absurd rfl hc)
theorem lc_31 {L : Nat} {xs : Nat → Int32} {i : Nat} {g : Sg} (hL : L ≤ 384) (hi : i + 6 ≤ L) (hR : Rel g) (hn : Nxt L xs i) : Wp Mlaw_law (Elw L xs) 1053 (LLw (nI i)) [] g QLw := by
  refine e_aload_n (dx D_law13 39 rfl) rfl ?_
  refine e_aload_n (dx D_law13 40 rfl) rfl ?_
  refine e_iload_n (dx D_law13 41 rfl) rfl ?_
  refine q_iconst (v := nI 1) (dx D_law13 42 rfl) (by decide) ?_
  refine e_iadd (dx D_law13 43 rfl) ?_
  refine e_sld (dx D_law13 44 rfl) (hvs hL hi 1 (by omega)) ?_
  refine e_callVi (Q1 := fun r g1 => Cm_lose (xs (nI i + nI 1).toNatClampNeg) g1 (fun r' g2 => r = r' ∧ Rel g2)) (rest := []) [.int (xs (nI i + nI 1).toNatClampNeg)] (dx D_law13 45 rfl) ln_law_law_142 rfl rfl rfl (Nat.le_of_ble_eq_true rfl) (op_lose hR (fun r g' h => ⟨rfl, h⟩)) (fun r g1 h1 => ?_)
  refine e_aload_n (dx D_law13 46 rfl) rfl ?_
  refine e_aload_n (dx D_law13 47 rfl) rfl ?_
  refine e_iload_n (dx D_law13 48 rfl) rfl ?_
  refine q_iconst (v := nI 1) (dx D_law13 49 rfl) (by decide) ?_
  refine e_iadd (dx D_law14 0 rfl) ?_
  refine e_sld (dx D_law14 1 rfl) (hvs hL hi 1 (by omega)) ?_
  refine e_callVi (rest := [.int r]) [.int (xs (nI i + nI 1).toNatClampNeg)] (dx D_law14 2 rfl) ln_law_law_145 rfl rfl rfl (Nat.le_of_ble_eq_true rfl) h1 (fun r' g2 h2 => ?_)
  obtain ⟨rfl, hR2⟩ := h2
  exact e_icmp_eq (tgt := 1315) (dx D_law14 3 rfl) (by decide) (fun _ => hn g2 hR2) (fun hc => absurd rfl hc)
theorem lc_32 {L : Nat} {xs : Nat → Int32} {i : Nat} {g : Sg} (hL : L ≤ 384) (hi : i + 6 ≤ L) (hR : Rel g) (hn : Nxt L xs i) : Wp Mlaw_law (Elw L xs) 1076 (LLw (nI i)) [] g QLw := by
  refine e_aload_n (dx D_law14 6 rfl) rfl ?_
  refine e_aload_n (dx D_law14 7 rfl) rfl ?_
  refine e_iload_n (dx D_law14 8 rfl) rfl ?_
  refine q_iconst (v := nI 1) (dx D_law14 9 rfl) (by decide) ?_
  refine e_iadd (dx D_law14 10 rfl) ?_
  refine e_sld (dx D_law14 11 rfl) (hvs hL hi 1 (by omega)) ?_
  refine e_aload_n (dx D_law14 12 rfl) rfl ?_
  refine e_iload_n (dx D_law14 13 rfl) rfl ?_
  refine q_iconst (v := nI 2) (dx D_law14 14 rfl) (by decide) ?_
  refine e_iadd (dx D_law14 15 rfl) ?_
  refine e_sld (dx D_law14 16 rfl) (hvs hL hi 2 (by omega)) ?_
  refine e_aload_n (dx D_law14 17 rfl) rfl ?_
  refine e_iload_n (dx D_law14 18 rfl) rfl ?_
  refine q_iconst (v := nI 3) (dx D_law14 19 rfl) (by decide) ?_
  refine e_iadd (dx D_law14 20 rfl) ?_
  refine e_sld (dx D_law14 21 rfl) (hvs hL hi 3 (by omega)) ?_
  refine e_aload_n (dx D_law14 22 rfl) rfl ?_
  refine e_iload_n (dx D_law14 23 rfl) rfl ?_
  refine q_iconst (v := nI 4) (dx D_law14 24 rfl) (by decide) ?_
  refine e_iadd (dx D_law14 25 rfl) ?_
  refine e_sld (dx D_law14 26 rfl) (hvs hL hi 4 (by omega)) ?_
  refine e_callVi (Q1 := fun r g1 => Cm_lay (xs (nI i + nI 1).toNatClampNeg) (xs (nI i + nI 2).toNatClampNeg) (xs (nI i + nI 3).toNatClampNeg) (xs (nI i + nI 4).toNatClampNeg) g1 (fun r' g2 => r = r' ∧ Rel g2)) (rest := []) [.int (xs (nI i + nI 1).toNatClampNeg), .int (xs (nI i + nI 2).toNatClampNeg), .int (xs (nI i + nI 3).toNatClampNeg), .int (xs (nI i + nI 4).toNatClampNeg)] (dx D_law14 27 rfl) ln_law_law_146 rfl rfl rfl (Nat.le_of_ble_eq_true rfl) (op_lay hR (fun r g' h => ⟨rfl, h⟩)) (fun r g1 h1 => ?_)
  refine e_aload_n (dx D_law14 28 rfl) rfl ?_
  refine e_aload_n (dx D_law14 29 rfl) rfl ?_
  refine e_iload_n (dx D_law14 30 rfl) rfl ?_
  refine q_iconst (v := nI 1) (dx D_law14 31 rfl) (by decide) ?_
  refine e_iadd (dx D_law14 32 rfl) ?_
  refine e_sld (dx D_law14 33 rfl) (hvs hL hi 1 (by omega)) ?_
  refine e_aload_n (dx D_law14 34 rfl) rfl ?_
  refine e_iload_n (dx D_law14 35 rfl) rfl ?_
  refine q_iconst (v := nI 2) (dx D_law14 36 rfl) (by decide) ?_
  refine e_iadd (dx D_law14 37 rfl) ?_
  refine e_sld (dx D_law14 38 rfl) (hvs hL hi 2 (by omega)) ?_
  refine e_aload_n (dx D_law14 39 rfl) rfl ?_
  refine e_iload_n (dx D_law14 40 rfl) rfl ?_
  refine q_iconst (v := nI 3) (dx D_law14 41 rfl) (by decide) ?_
  refine e_iadd (dx D_law14 42 rfl) ?_
  refine e_sld (dx D_law14 43 rfl) (hvs hL hi 3 (by omega)) ?_
  refine e_aload_n (dx D_law14 44 rfl) rfl ?_
  refine e_iload_n (dx D_law14 45 rfl) rfl ?_
  refine q_iconst (v := nI 4) (dx D_law14 46 rfl) (by decide) ?_
  refine e_iadd (dx D_law14 47 rfl) ?_
  refine e_sld (dx D_law14 48 rfl) (hvs hL hi 4 (by omega)) ?_
  refine e_callVi (rest := [.int r]) [.int (xs (nI i + nI 1).toNatClampNeg), .int (xs (nI i + nI 2).toNatClampNeg), .int (xs (nI i + nI 3).toNatClampNeg), .int (xs (nI i + nI 4).toNatClampNeg)] (dx D_law14 49 rfl) ln_law_law_149 rfl rfl rfl (Nat.le_of_ble_eq_true rfl) h1 (fun r' g2 h2 => ?_)
  obtain ⟨rfl, hR2⟩ := h2
  exact e_icmp_eq (tgt := 1315) (dx D_law15 0 rfl) (by decide) (fun _ => hn g2 hR2) (fun hc => absurd rfl hc)
theorem lc_33 {L : Nat} {xs : Nat → Int32} {i : Nat} {g : Sg} (hL : L ≤ 384) (hi : i + 6 ≤ L) (hR : Rel g) (hn : Nxt L xs i) : Wp Mlaw_law (Elw L xs) 1129 (LLw (nI i)) [] g QLw := by
  refine e_aload_n (dx D_law15 3 rfl) rfl ?_
  refine e_aload_n (dx D_law15 4 rfl) rfl ?_
  refine e_iload_n (dx D_law15 5 rfl) rfl ?_
  refine q_iconst (v := nI 1) (dx D_law15 6 rfl) (by decide) ?_
  refine e_iadd (dx D_law15 7 rfl) ?_
  refine e_sld (dx D_law15 8 rfl) (hvs hL hi 1 (by omega)) ?_
  refine e_aload_n (dx D_law15 9 rfl) rfl ?_
  refine e_iload_n (dx D_law15 10 rfl) rfl ?_
  refine q_iconst (v := nI 2) (dx D_law15 11 rfl) (by decide) ?_
  refine e_iadd (dx D_law15 12 rfl) ?_
  refine e_sld (dx D_law15 13 rfl) (hvs hL hi 2 (by omega)) ?_
  refine e_aload_n (dx D_law15 14 rfl) rfl ?_
  refine e_iload_n (dx D_law15 15 rfl) rfl ?_
  refine q_iconst (v := nI 3) (dx D_law15 16 rfl) (by decide) ?_
  refine e_iadd (dx D_law15 17 rfl) ?_
  refine e_sld (dx D_law15 18 rfl) (hvs hL hi 3 (by omega)) ?_
  refine e_callVi (Q1 := fun r g1 => Cm_get (xs (nI i + nI 1).toNatClampNeg) (xs (nI i + nI 2).toNatClampNeg) (xs (nI i + nI 3).toNatClampNeg) g1 (fun r' g2 => r = r' ∧ Rel g2)) (rest := []) [.int (xs (nI i + nI 1).toNatClampNeg), .int (xs (nI i + nI 2).toNatClampNeg), .int (xs (nI i + nI 3).toNatClampNeg)] (dx D_law15 19 rfl) ln_law_law_150 rfl rfl rfl (Nat.le_of_ble_eq_true rfl) (op_get hR (fun r g' h => ⟨rfl, h⟩)) (fun r g1 h1 => ?_)
  refine e_aload_n (dx D_law15 20 rfl) rfl ?_
  refine e_aload_n (dx D_law15 21 rfl) rfl ?_
  refine e_iload_n (dx D_law15 22 rfl) rfl ?_
  refine q_iconst (v := nI 1) (dx D_law15 23 rfl) (by decide) ?_
  refine e_iadd (dx D_law15 24 rfl) ?_
  refine e_sld (dx D_law15 25 rfl) (hvs hL hi 1 (by omega)) ?_
  refine e_aload_n (dx D_law15 26 rfl) rfl ?_
  refine e_iload_n (dx D_law15 27 rfl) rfl ?_
  refine q_iconst (v := nI 2) (dx D_law15 28 rfl) (by decide) ?_
  refine e_iadd (dx D_law15 29 rfl) ?_
  refine e_sld (dx D_law15 30 rfl) (hvs hL hi 2 (by omega)) ?_
  refine e_aload_n (dx D_law15 31 rfl) rfl ?_
  refine e_iload_n (dx D_law15 32 rfl) rfl ?_
  refine q_iconst (v := nI 3) (dx D_law15 33 rfl) (by decide) ?_
  refine e_iadd (dx D_law15 34 rfl) ?_
  refine e_sld (dx D_law15 35 rfl) (hvs hL hi 3 (by omega)) ?_
  refine e_callVi (rest := [.int r]) [.int (xs (nI i + nI 1).toNatClampNeg), .int (xs (nI i + nI 2).toNatClampNeg), .int (xs (nI i + nI 3).toNatClampNeg)] (dx D_law15 36 rfl) ln_law_law_153 rfl rfl rfl (Nat.le_of_ble_eq_true rfl) h1 (fun r' g2 h2 => ?_)
  obtain ⟨rfl, hR2⟩ := h2
  exact e_icmp_eq (tgt := 1315) (dx D_law15 37 rfl) (by decide) (fun _ => hn g2 hR2) (fun hc => absurd rfl hc)
theorem lc_34 {L : Nat} {xs : Nat → Int32} {i : Nat} {g : Sg} (hL : L ≤ 384) (hi : i + 6 ≤ L) (hR : Rel g) (hn : Nxt L xs i) : Wp Mlaw_law (Elw L xs) 1172 (LLw (nI i)) [] g QLw := by
  refine e_aload_n (dx D_law15 40 rfl) rfl ?_
  refine e_aload_n (dx D_law15 41 rfl) rfl ?_
  refine e_iload_n (dx D_law15 42 rfl) rfl ?_
  refine q_iconst (v := nI 1) (dx D_law15 43 rfl) (by decide) ?_
  refine e_iadd (dx D_law15 44 rfl) ?_
  refine e_sld (dx D_law15 45 rfl) (hvs hL hi 1 (by omega)) ?_
  refine e_aload_n (dx D_law15 46 rfl) rfl ?_
  refine e_iload_n (dx D_law15 47 rfl) rfl ?_
  refine q_iconst (v := nI 2) (dx D_law15 48 rfl) (by decide) ?_
  refine e_iadd (dx D_law15 49 rfl) ?_
  refine e_sld (dx D_law16 0 rfl) (hvs hL hi 2 (by omega)) ?_
  refine e_aload_n (dx D_law16 1 rfl) rfl ?_
  refine e_iload_n (dx D_law16 2 rfl) rfl ?_
  refine q_iconst (v := nI 3) (dx D_law16 3 rfl) (by decide) ?_
  refine e_iadd (dx D_law16 4 rfl) ?_
  refine e_sld (dx D_law16 5 rfl) (hvs hL hi 3 (by omega)) ?_
  refine e_aload_n (dx D_law16 6 rfl) rfl ?_
  refine e_iload_n (dx D_law16 7 rfl) rfl ?_
  refine q_iconst (v := nI 4) (dx D_law16 8 rfl) (by decide) ?_
  refine e_iadd (dx D_law16 9 rfl) ?_
  refine e_sld (dx D_law16 10 rfl) (hvs hL hi 4 (by omega)) ?_
  refine e_aload_n (dx D_law16 11 rfl) rfl ?_
  refine e_iload_n (dx D_law16 12 rfl) rfl ?_
  refine q_iconst (v := nI 5) (dx D_law16 13 rfl) (by decide) ?_
  refine e_iadd (dx D_law16 14 rfl) ?_
  refine e_sld (dx D_law16 15 rfl) (hvs hL hi 5 (by omega)) ?_
  refine e_callVi (Q1 := fun r g1 => Cm_copy (xs (nI i + nI 1).toNatClampNeg) (xs (nI i + nI 2).toNatClampNeg) (xs (nI i + nI 3).toNatClampNeg) (xs (nI i + nI 4).toNatClampNeg) (xs (nI i + nI 5).toNatClampNeg) g1 (fun r' g2 => r = r' ∧ Rel g2)) (rest := []) [.int (xs (nI i + nI 1).toNatClampNeg), .int (xs (nI i + nI 2).toNatClampNeg), .int (xs (nI i + nI 3).toNatClampNeg), .int (xs (nI i + nI 4).toNatClampNeg), .int (xs (nI i + nI 5).toNatClampNeg)] (dx D_law16 16 rfl) ln_law_law_154 rfl rfl rfl (Nat.le_of_ble_eq_true rfl) (op_copy hR (fun r g' h => ⟨rfl, h⟩)) (fun r g1 h1 => ?_)
  refine e_aload_n (dx D_law16 17 rfl) rfl ?_
  refine e_aload_n (dx D_law16 18 rfl) rfl ?_
  refine e_iload_n (dx D_law16 19 rfl) rfl ?_
  refine q_iconst (v := nI 1) (dx D_law16 20 rfl) (by decide) ?_
  refine e_iadd (dx D_law16 21 rfl) ?_
  refine e_sld (dx D_law16 22 rfl) (hvs hL hi 1 (by omega)) ?_
  refine e_aload_n (dx D_law16 23 rfl) rfl ?_
  refine e_iload_n (dx D_law16 24 rfl) rfl ?_
  refine q_iconst (v := nI 2) (dx D_law16 25 rfl) (by decide) ?_
  refine e_iadd (dx D_law16 26 rfl) ?_
  refine e_sld (dx D_law16 27 rfl) (hvs hL hi 2 (by omega)) ?_
  refine e_aload_n (dx D_law16 28 rfl) rfl ?_
  refine e_iload_n (dx D_law16 29 rfl) rfl ?_
  refine q_iconst (v := nI 3) (dx D_law16 30 rfl) (by decide) ?_
  refine e_iadd (dx D_law16 31 rfl) ?_
  refine e_sld (dx D_law16 32 rfl) (hvs hL hi 3 (by omega)) ?_
  refine e_aload_n (dx D_law16 33 rfl) rfl ?_
  refine e_iload_n (dx D_law16 34 rfl) rfl ?_
  refine q_iconst (v := nI 4) (dx D_law16 35 rfl) (by decide) ?_
  refine e_iadd (dx D_law16 36 rfl) ?_
  refine e_sld (dx D_law16 37 rfl) (hvs hL hi 4 (by omega)) ?_
  refine e_aload_n (dx D_law16 38 rfl) rfl ?_
  refine e_iload_n (dx D_law16 39 rfl) rfl ?_
  refine q_iconst (v := nI 5) (dx D_law16 40 rfl) (by decide) ?_
  refine e_iadd (dx D_law16 41 rfl) ?_
  refine e_sld (dx D_law16 42 rfl) (hvs hL hi 5 (by omega)) ?_
  refine e_callVi (rest := [.int r]) [.int (xs (nI i + nI 1).toNatClampNeg), .int (xs (nI i + nI 2).toNatClampNeg), .int (xs (nI i + nI 3).toNatClampNeg), .int (xs (nI i + nI 4).toNatClampNeg), .int (xs (nI i + nI 5).toNatClampNeg)] (dx D_law16 43 rfl) ln_law_law_158 rfl rfl rfl (Nat.le_of_ble_eq_true rfl) h1 (fun r' g2 h2 => ?_)
  obtain ⟨rfl, hR2⟩ := h2
  exact e_icmp_eq (tgt := 1315) (dx D_law16 44 rfl) (by decide) (fun _ => hn g2 hR2) (fun hc => absurd rfl hc)
theorem lc_35 {L : Nat} {xs : Nat → Int32} {i : Nat} {g : Sg} (hL : L ≤ 384) (hi : i + 6 ≤ L) (hR : Rel g) (hn : Nxt L xs i) : Wp Mlaw_law (Elw L xs) 1235 (LLw (nI i)) [] g QLw := by
  refine e_aload_n (dx D_law16 47 rfl) rfl ?_
  refine e_aload_n (dx D_law16 48 rfl) rfl ?_
  refine e_iload_n (dx D_law16 49 rfl) rfl ?_
  refine q_iconst (v := nI 1) (dx D_law17 0 rfl) (by decide) ?_
  refine e_iadd (dx D_law17 1 rfl) ?_
  refine e_sld (dx D_law17 2 rfl) (hvs hL hi 1 (by omega)) ?_
  refine e_aload_n (dx D_law17 3 rfl) rfl ?_
  refine e_iload_n (dx D_law17 4 rfl) rfl ?_
  refine q_iconst (v := nI 2) (dx D_law17 5 rfl) (by decide) ?_
  refine e_iadd (dx D_law17 6 rfl) ?_
  refine e_sld (dx D_law17 7 rfl) (hvs hL hi 2 (by omega)) ?_
  refine e_aload_n (dx D_law17 8 rfl) rfl ?_
  refine e_iload_n (dx D_law17 9 rfl) rfl ?_
  refine q_iconst (v := nI 3) (dx D_law17 10 rfl) (by decide) ?_
  refine e_iadd (dx D_law17 11 rfl) ?_
  refine e_sld (dx D_law17 12 rfl) (hvs hL hi 3 (by omega)) ?_
  refine e_callVi (Q1 := fun r g1 => Cm_write (xs (nI i + nI 1).toNatClampNeg) (xs (nI i + nI 2).toNatClampNeg) (xs (nI i + nI 3).toNatClampNeg) g1 (fun r' g2 => r = r' ∧ Rel g2)) (rest := []) [.int (xs (nI i + nI 1).toNatClampNeg), .int (xs (nI i + nI 2).toNatClampNeg), .int (xs (nI i + nI 3).toNatClampNeg)] (dx D_law17 13 rfl) ln_law_law_159 rfl rfl rfl (Nat.le_of_ble_eq_true rfl) (op_write hR (fun r g' h => ⟨rfl, h⟩)) (fun r g1 h1 => ?_)
  refine e_aload_n (dx D_law17 14 rfl) rfl ?_
  refine e_aload_n (dx D_law17 15 rfl) rfl ?_
  refine e_iload_n (dx D_law17 16 rfl) rfl ?_
  refine q_iconst (v := nI 1) (dx D_law17 17 rfl) (by decide) ?_
  refine e_iadd (dx D_law17 18 rfl) ?_
  refine e_sld (dx D_law17 19 rfl) (hvs hL hi 1 (by omega)) ?_
  refine e_aload_n (dx D_law17 20 rfl) rfl ?_
  refine e_iload_n (dx D_law17 21 rfl) rfl ?_
  refine q_iconst (v := nI 2) (dx D_law17 22 rfl) (by decide) ?_
  refine e_iadd (dx D_law17 23 rfl) ?_
  refine e_sld (dx D_law17 24 rfl) (hvs hL hi 2 (by omega)) ?_
  refine e_aload_n (dx D_law17 25 rfl) rfl ?_
  refine e_iload_n (dx D_law17 26 rfl) rfl ?_
  refine q_iconst (v := nI 3) (dx D_law17 27 rfl) (by decide) ?_
  refine e_iadd (dx D_law17 28 rfl) ?_
  refine e_sld (dx D_law17 29 rfl) (hvs hL hi 3 (by omega)) ?_
  refine e_callVi (rest := [.int r]) [.int (xs (nI i + nI 1).toNatClampNeg), .int (xs (nI i + nI 2).toNatClampNeg), .int (xs (nI i + nI 3).toNatClampNeg)] (dx D_law17 30 rfl) ln_law_law_162 rfl rfl rfl (Nat.le_of_ble_eq_true rfl) h1 (fun r' g2 h2 => ?_)
  obtain ⟨rfl, hR2⟩ := h2
  exact e_icmp_eq (tgt := 1315) (dx D_law17 31 rfl) (by decide) (fun _ => hn g2 hR2) (fun hc => absurd rfl hc)
theorem lc_36 {L : Nat} {xs : Nat → Int32} {i : Nat} {g : Sg} (hL : L ≤ 384) (hi : i + 6 ≤ L) (hR : Rel g) (hn : Nxt L xs i) : Wp Mlaw_law (Elw L xs) 1278 (LLw (nI i)) [] g QLw := by
  refine e_aload_n (dx D_law17 34 rfl) rfl ?_
  refine e_aload_n (dx D_law17 35 rfl) rfl ?_
  refine e_iload_n (dx D_law17 36 rfl) rfl ?_
  refine q_iconst (v := nI 1) (dx D_law17 37 rfl) (by decide) ?_
  refine e_iadd (dx D_law17 38 rfl) ?_
  refine e_sld (dx D_law17 39 rfl) (hvs hL hi 1 (by omega)) ?_
  refine e_callVi (Q1 := fun r g1 => Cm_count (xs (nI i + nI 1).toNatClampNeg) g1 (fun r' g2 => r = r' ∧ Rel g2)) (rest := []) [.int (xs (nI i + nI 1).toNatClampNeg)] (dx D_law17 40 rfl) ln_law_law_163 rfl rfl rfl (Nat.le_of_ble_eq_true rfl) (op_count hR (fun r g' h => ⟨rfl, h⟩)) (fun r g1 h1 => ?_)
  refine e_aload_n (dx D_law17 41 rfl) rfl ?_
  refine e_aload_n (dx D_law17 42 rfl) rfl ?_
  refine e_iload_n (dx D_law17 43 rfl) rfl ?_
  refine q_iconst (v := nI 1) (dx D_law17 44 rfl) (by decide) ?_
  refine e_iadd (dx D_law17 45 rfl) ?_
  refine e_sld (dx D_law17 46 rfl) (hvs hL hi 1 (by omega)) ?_
  refine e_callVi (rest := [.int r]) [.int (xs (nI i + nI 1).toNatClampNeg)] (dx D_law17 47 rfl) ln_law_law_166 rfl rfl rfl (Nat.le_of_ble_eq_true rfl) h1 (fun r' g2 h2 => ?_)
  obtain ⟨rfl, hR2⟩ := h2
  exact e_icmp_eq (tgt := 1315) (dx D_law17 48 rfl) (by decide) (fun _ => hn g2 hR2) (fun hc => absurd rfl hc)
theorem lc_37 {L : Nat} {xs : Nat → Int32} {i : Nat} {g : Sg} (hL : L ≤ 384) (hi : i + 6 ≤ L) (hR : Rel g) (hn : Nxt L xs i) : Wp Mlaw_law (Elw L xs) 1301 (LLw (nI i)) [] g QLw := by
  refine e_aload_n (dx D_law18 1 rfl) rfl ?_
  refine e_callVj (Q1 := fun r g1 => Cm_digest  g1 (fun r' g2 => r = r' ∧ Rel g2)) (rest := []) [] (dx D_law18 2 rfl) ln_law_law_167 rfl rfl rfl (Nat.le_of_ble_eq_true rfl) (op_digest hR (fun r g' h => ⟨rfl, h⟩)) (fun r g1 h1 => ?_)
  refine e_aload_n (dx D_law18 3 rfl) rfl ?_
  refine e_callVj (rest := [.long r]) [] (dx D_law18 4 rfl) ln_law_law_171 rfl rfl rfl (Nat.le_of_ble_eq_true rfl) h1 (fun r' g2 h2 => ?_)
  obtain ⟨rfl, hR2⟩ := h2
  refine e_lcmp (dx D_law18 5 rfl) ?_
  rw [lcz]
  exact e_if_eq (tgt := 1315) (dx D_law18 6 rfl) (by decide) (fun _ => hn g2 hR2) (fun hc => absurd rfl hc)
