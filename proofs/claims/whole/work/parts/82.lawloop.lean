/-! the law: its loop -/
def tgLw : List Nat := [200, 223, 236, 249, 262, 295, 328, 361, 384, 397, 420, 433, 466, 499, 522, 565, 608, 631, 644, 667, 690, 723, 766, 819, 862, 905, 918, 941, 964, 987, 1010, 1053, 1076, 1129, 1172, 1235, 1278, 1301]
theorem lw_cmp {L i : Nat} (hL : L ≤ 384) (hi : i ≤ 1000) : (Int32.ofNat L - nI 6 < nI i) ↔ L < i + 6 := by
  rw [Int32.lt_iff_toInt_lt, nI_toInt (show i < 2 ^ 31 by omega)]
  have h : (nI L - nI 6).toInt = (L : Int) - 6 := pk_sub_toInt (by omega) (by omega)
  have h' : (Int32.ofNat L - nI 6).toInt = (L : Int) - 6 := h
  rw [h']
  omega
theorem lw_end {L : Nat} {xs : Nat → Int32} {i : Nat} {g : Sg} (hL : L ≤ 384) (hi : L < i + 6) (hb : i ≤ 1000) : Wp Mlaw_law (Elw L xs) 18 (LLw (nI i)) [] g QLw := by
  refine e_iload_n (dx D_law0 10 rfl) rfl ?_
  refine e_aload_n (dx D_law0 11 rfl) rfl ?_
  refine e_slen (dx D_law0 12 rfl) ?_
  refine q_bipush (v := nI 6) (dx D_law0 13 rfl) (by decide) ?_
  refine e_isub (dx D_law0 14 rfl) ?_
  refine e_icmp_gt (tgt := 1321) (dx D_law0 15 rfl) (by decide) (fun _ => ?_) (fun hc => absurd ((lw_cmp hL hb).mpr hi) hc)
  refine q_iconst (v := 1) (dx D_law18 11 rfl) (by decide) ?_
  exact e_iret (dx D_law18 12 rfl) rfl rfl rfl
theorem lw_body {L : Nat} {xs : Nat → Int32} {i : Nat} {g : Sg} (hL : L ≤ 384) (hi : i + 6 ≤ L) (hR : Rel g) (hn : Nxt L xs i) : Wp Mlaw_law (Elw L xs) 18 (LLw (nI i)) [] g QLw := by
  refine e_iload_n (dx D_law0 10 rfl) rfl ?_
  refine e_aload_n (dx D_law0 11 rfl) rfl ?_
  refine e_slen (dx D_law0 12 rfl) ?_
  refine q_bipush (v := nI 6) (dx D_law0 13 rfl) (by decide) ?_
  refine e_isub (dx D_law0 14 rfl) ?_
  refine e_icmp_gt (tgt := 1321) (dx D_law0 15 rfl) (by decide) (fun hc => absurd ((lw_cmp hL (by omega)).mp hc) (by omega)) (fun _ => ?_)
  refine e_aload_n (dx D_law0 16 rfl) rfl ?_
  refine e_iload_n (dx D_law0 17 rfl) rfl ?_
  refine e_sld (dx D_law0 18 rfl) (vp_in_nI (by omega) (by omega)) ?_
  refine q_bipush (v := 63) (dx D_law0 19 rfl) (by decide) ?_
  refine e_iand (dx D_law0 20 rfl) ?_
  refine e_tbl (dflt := 1282) (lo := 0) (hi := 37) (offs := #[167, 190, 203, 216, 229, 262, 295, 328, 351, 364, 387, 400, 433, 466, 489, 532, 575, 598, 611, 634, 657, 690, 733, 786, 829, 872, 885, 908, 931, 954, 977, 1020, 1043, 1096, 1139, 1202, 1245, 1268]) (dx D_law0 21 rfl) (fun z => tgLw.getD z.toNat 0) 1315 (by decide) (by decide +kernel) (by decide) (fun _ => hn g hR) (fun h0 h37 => ?_)
  obtain ⟨j, hj⟩ : ∃ j : Nat, (xs (nI i).toNatClampNeg &&& 63).toInt = j := ⟨_, (Int.toNat_of_nonneg h0).symm⟩
  rw [hj] at h37 ⊢
  have hj37 : j ≤ 37 := by omega
  show Wp Mlaw_law (Elw L xs) (tgLw.getD j 0) (LLw (nI i)) [] g QLw
  match j, hj37 with
  | 0, _ => exact lc_0 hL hi hR hn
  | 1, _ => exact lc_1 hL hi hR hn
  | 2, _ => exact lc_2 hL hi hR hn
  | 3, _ => exact lc_3 hL hi hR hn
  | 4, _ => exact lc_4 hL hi hR hn
  | 5, _ => exact lc_5 hL hi hR hn
  | 6, _ => exact lc_6 hL hi hR hn
  | 7, _ => exact lc_7 hL hi hR hn
  | 8, _ => exact lc_8 hL hi hR hn
  | 9, _ => exact lc_9 hL hi hR hn
  | 10, _ => exact lc_10 hL hi hR hn
  | 11, _ => exact lc_11 hL hi hR hn
  | 12, _ => exact lc_12 hL hi hR hn
  | 13, _ => exact lc_13 hL hi hR hn
  | 14, _ => exact lc_14 hL hi hR hn
  | 15, _ => exact lc_15 hL hi hR hn
  | 16, _ => exact lc_16 hL hi hR hn
  | 17, _ => exact lc_17 hL hi hR hn
  | 18, _ => exact lc_18 hL hi hR hn
  | 19, _ => exact lc_19 hL hi hR hn
  | 20, _ => exact lc_20 hL hi hR hn
  | 21, _ => exact lc_21 hL hi hR hn
  | 22, _ => exact lc_22 hL hi hR hn
  | 23, _ => exact lc_23 hL hi hR hn
  | 24, _ => exact lc_24 hL hi hR hn
  | 25, _ => exact lc_25 hL hi hR hn
  | 26, _ => exact lc_26 hL hi hR hn
  | 27, _ => exact lc_27 hL hi hR hn
  | 28, _ => exact lc_28 hL hi hR hn
  | 29, _ => exact lc_29 hL hi hR hn
  | 30, _ => exact lc_30 hL hi hR hn
  | 31, _ => exact lc_31 hL hi hR hn
  | 32, _ => exact lc_32 hL hi hR hn
  | 33, _ => exact lc_33 hL hi hR hn
  | 34, _ => exact lc_34 hL hi hR hn
  | 35, _ => exact lc_35 hL hi hR hn
  | 36, _ => exact lc_36 hL hi hR hn
  | 37, _ => exact lc_37 hL hi hR hn
  | (k + 38), h => omega
theorem i_63 {x : Int32} : 0 ≤ (x &&& 63).toInt ∧ (x &&& 63).toInt ≤ 63 := by
  obtain ⟨j, hj, e⟩ := pk_andE x (m := 63) 6 (by decide)
  rw [e, nI_toInt (by omega)]
  omega
theorem law_loop {L : Nat} {xs : Nat → Int32} (hL : L ≤ 384) : ∀ (n i : Nat) (g : Sg), L < i + n → i ≤ L + 6 → Rel g → Wp Mlaw_law (Elw L xs) 18 (LLw (nI i)) [] g QLw := by
  intro n
  induction n with
  | zero => intro i g hn hi hR; exact lw_end hL (by omega) (by omega)
  | succ n ih =>
    intro i g hn hi hR
    by_cases hle : i + 6 ≤ L
    · exact lw_body hL hle hR (fun g' hR' => by
        refine q_iinc (d := nI 6) (dx D_law18 9 rfl) rfl (by decide) (by decide) rfl ?_
        refine e_goto (tgt := 18) (dx D_law18 10 rfl) (by decide) ?_
        rw [nI_add]
        exact ih (i + 6) g' (by omega) (by omega) hR')
    · exact lw_end hL (by omega) (by omega)
