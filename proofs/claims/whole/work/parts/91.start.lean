set_option maxHeartbeats 4000000 in
set_option maxRecDepth 100000 in
theorem whole_start {p : Program} {e : Env} {s : State} {m : MethodId} {below : List Frame} {meth : Method} {c : Code} (l : Launch) {b L : Nat} {xs : Nat → Int32} (hL : L ≤ 384) (C0 : lw_At p s m meth c b L xs) : W p l e room_1 s m #[Value.ref b] below meth c s.heap [] 0 0 (lw_Z below #[Value.ref b] s) (entryFrame m ([Value.ref b] : List Value).toArray 4) := by
  obtain ⟨hx, hb, hr, hml, hown, hts, hX, hbl, hlocks, hgv⟩ := id C0
  have htg : ∀ w ∈ gtbl, w.before #[Value.ref b] s = true := fun w hw => hts w (List.mem_filter.mp hw).1
  have hN : nst s := fun own i y host hm => va_Nw.of rfl (hts _ hm)
  have hA : ∀ q : Nat, s.heap.size ≤ q → (fun q : Nat => s.heap.size ≤ q) q := fun _ h => h
  obtain ⟨c0, i0, n0⟩ := u_known (C := RX0) (T := TX0) (N := 7) (n := 7) htg inX0 (htg _ kc191)
  obtain ⟨c1, i1, n1⟩ := u_known (C := RX1) (T := TX1) (N := 5) (n := 5) htg inX1 (htg _ kc221)
  obtain ⟨c2, i2, n2⟩ := u_known (C := RX2) (T := TX2) (N := 5) (n := 5) htg inX2 (htg _ kc291)
  obtain ⟨c3, i3, n3⟩ := u_known (C := RX3) (T := TX3) (N := 6) (n := 6) htg inX3 (htg _ kc243)
  obtain ⟨c4, i4, n4⟩ := u_known (C := RX4) (T := TX4) (N := 11) (n := 11) htg inX4 (htg _ kc98)
  obtain ⟨c5, i5, n5⟩ := u_known (C := RX5) (T := TX5) (N := 4) (n := 4) htg inX5 (htg _ kc271)
  obtain ⟨c6, i6, n6⟩ := u_known (C := RX6) (T := TX6) (N := 4) (n := 4) htg inX6 (htg _ kc318)
  obtain ⟨c7, i7, n7⟩ := u_known (C := RX7) (T := TX7) (N := 5) (n := 5) htg inX7 (htg _ kc163)
  obtain ⟨c8, i8, n8⟩ := u_known (C := RX8) (T := TX8) (N := 9) (n := 9) htg inX8 (htg _ kc90)
  obtain ⟨c9, i9, n9⟩ := u_known (C := RX9) (T := TX9) (N := 30) (n := 30) htg inX9 (htg _ kc949)
  obtain ⟨dC, dI, hKc⟩ : ∃ (dC : Nat → ClassId) (dI : Nat → Nat → Nat), ∀ (k : Nat) (q : vw_C), vwCl[k]? = some q → u_Kn s q.1 q.2.1 q.2.2 (dC k) (dI k) := by
    refine ⟨fun k => [c0, c1, c2, c3, c4, c5, c6, c7, c8, c9].getD k c0, fun k => [i0, i1, i2, i3, i4, i5, i6, i7, i8, i9].getD k i0, ?_⟩
    intro k q hq
    match k, hq with
    | 0, hq => cases hq; exact n0
    | 1, hq => cases hq; exact n1
    | 2, hq => cases hq; exact n2
    | 3, hq => cases hq; exact n3
    | 4, hq => cases hq; exact n4
    | 5, hq => cases hq; exact n5
    | 6, hq => cases hq; exact n6
    | 7, hq => cases hq; exact n7
    | 8, hq => cases hq; exact n8
    | 9, hq => cases hq; exact n9
    | k + 10, hq => simp [vwCl] at hq
  obtain ⟨cA, kA, comp, a1, a2, a3⟩ := Cond.arrayClass_spec (htg _ kc161)
  have hK : va_K (dC, dI) vwCl [(cA, .int)] s := ⟨hKc, fun k q h => by
    match k, h with
    | 0, h => cases h; exact ⟨fun n z => ⟨fun k h => (by cases h), kA, a2, comp, a3⟩, a1⟩
    | k + 1, h => simp at h⟩
  have hS : va_S (fun q : Nat => s.heap.size ≤ q) s.heap s.heap [] := va_S.rf
  have hP : va_P (dC, dI) vwCl [] s.heap := fun k q h => by simp at h
  have hD : va_D (fun q : Nat => s.heap.size ≤ q) [] := ⟨fun i j p q h => by simp at h, fun k q h => by simp at h⟩
  have hl := lv_entry ([.ref b]) (n := 4) (Nat.le_of_ble_eq_true rfl)
  rw [lg_entry_eq]
  generalize (lg_sl ([.ref b]) ++ List.replicate (4 - (lg_sl ([.ref b])).length) Slot.unset).toArray = ls at hl ⊢
  have hl : lv_has ls 4 [(0, .ref b)] := hl
  obtain ⟨C1, T1, t1, u1, u2, u3, u4, u5, u6, u7⟩ := nw_RL_7
  refine va_new (ci := 8) (fs := [.null, .null, .null, .null, .null, .null, .null, .null, .int 0]) (C := C1) (T := T1) (N := 9) hx hb htg u2 t1 u3 hown (htg _ u4) (htg _ u5) (htg _ u6) hK hP hD hS hA u1 u7 (Nat.le_of_ble_eq_true rfl) (Nat.le_of_ble_eq_true rfl) (dx D_law0 0 rfl) (fun q0 H hP hD hS => ?_)
  have hP : va_P (dC, dI) vwCl [(q0, .inr (8, [.null, .null, .null, .null, .null, .null, .null, .null, .int 0]))] H := hP
  have hD : va_D (fun q : Nat => s.heap.size ≤ q) [(q0, .inr (8, [.null, .null, .null, .null, .null, .null, .null, .null, .int 0]))] := hD
  refine lv_dup hx hb (dx D_law0 1 rfl) rfl ?_
  obtain ⟨k1, k2, kin, k3, k4, k5, k6, k7⟩ := lk_RL_9
  have hFc := va_free (wc := [(q0, .inr (8, [.null, .null, .null, .null, .null, .null, .null, .null, .int 0]))]) hD hS hA [0] rfl
  refine va_callv (rest := [.ref q0]) (va_runI (As := []) (Ts := gtbl) ⟨hx, hb, hml, hown, htg⟩ (cn_X8 (cA := cA) q0 l (dC, dI) H.size) ⟨callB_of 0 htg (gtbl_in k4) rfl rfl rfl (htg _ k3) (htg _ k1) k5 ⟨Nat.le_of_ble_eq_true rfl, Nat.le_of_ble_eq_true rfl⟩, kin, htg _ k2⟩ ⟨kn_blind, fun U hU hW => ⟨rfl, by rw [hU], by rw [hU]; exact hP, va_K.moved hW.alike hK, hD.weaken (fun _ _ _ _ => trivial), nst_moved hN hW⟩⟩ rfl rfl hl.1 rfl (lv_room (Nat.le_of_ble_eq_true rfl)) (dx D_law0 2 rfl) ⟨Nat.le_of_ble_eq_true rfl, Nat.le_of_ble_eq_true rfl⟩) hS (fun q _ h => hFc q h) hFc (fun w1 t H1 locs1 ht hvm hw hB hz1 hk1 hS1 => ?_)
  obtain ⟨q1, q2, q3, q4, q5, q6, q7, q8, q9, q10, q11, q12, q13, q14, q15, q16, q17, q18, q19, q20, q21, q22, q23, q24, q25, q26, q27, q28, q29, q30, q31, q32, q33, rfl⟩ := hw
  obtain ⟨hP1, hD1⟩ := hB
  rw [ht] at hP1
  obtain ⟨hP2, hD2⟩ := va_join (wr := []) hP hD [0] [] rfl rfl (by decide) (by decide) hk1 hFc hP1 hD1
  have hP : va_P (dC, dI) vwCl [(q0, .inr (8, [.ref q1, .ref q7, .ref q11, .ref q16, .ref q20, .ref q22, .ref q26, .ref q30, .int 100])), (q1, .inr (4, [.ref q2, .ref q3, .ref q4, .ref q5, .ref q6, .int 0, .int (-1), .int (-1), .int 0, .int 0, .int 4])), (q2, .inl (cA, 79, .inl (fun _ => 0))), (q3, .inl (cA, 16, .inl (fun _ => 0))), (q4, .inl (cA, 16, .inl (fun _ => 0))), (q5, .inl (cA, 16, .inl (fun _ => 0))), (q6, .inl (cA, 16, .inl (fun _ => 0))), (q7, .inr (7, [.ref q1, .ref q8, .ref q9, .ref q10, .int 0])), (q8, .inl (cA, 16, .inl (fun _ => 0))), (q9, .inl (cA, 8, .inl (fun _ => 0))), (q10, .inl (cA, 8, .inl (fun _ => 0))), (q11, .inr (0, [.ref q7, .ref q1, .ref q12, .ref q13, .ref q14, .ref q15, .int 0])), (q12, .inl (cA, 16, .inl (fun _ => 0))), (q13, .inl (cA, 16, .inl (fun _ => 0))), (q14, .inl (cA, 17, .inl (fun _ => 0))), (q15, .inl (cA, 16, .inl (fun _ => 0))), (q16, .inr (1, [.ref q7, .ref q1, .ref q17, .ref q18, .ref q19])), (q17, .inl (cA, 16, .inl (fun _ => 0))), (q18, .inl (cA, 8, .inl (fun _ => 0))), (q19, .inl (cA, 8, .inl (fun _ => 0))), (q20, .inr (3, [.ref q11, .ref q7, .ref q21, .int 0, .int 0, .int 0])), (q21, .inl (cA, 8, .inl (fun _ => 0))), (q22, .inr (5, [.ref q1, .ref q23, .ref q24, .ref q25])), (q23, .inl (cA, 8, .inl (fun _ => 0))), (q24, .inl (cA, 16, .inl (fun _ => 0))), (q25, .inl (cA, 16, .inl (fun _ => 0))), (q26, .inr (2, [.ref q27, .ref q28, .ref q29, .int 0, .int 0])), (q27, .inl (cA, 8, .inl (fun _ => 0))), (q28, .inl (cA, 8, .inl (fun _ => 0))), (q29, .inl (cA, 6, .inl (fun _ => 0))), (q30, .inr (6, [.ref q31, .ref q32, .ref q33, .int 0])), (q31, .inl (cA, 240, .inl (fun _ => 0))), (q32, .inl (cA, 4, .inl (upd (upd (upd (upd (fun _ => 0) 0 (-1)) 1 (-1)) 2 (-1)) 3 (-1)))), (q33, .inl (cA, 4, .inl (fun _ => 0)))] H1 := hP2
  have hD : va_D (fun q : Nat => s.heap.size ≤ q) [(q0, .inr (8, [.ref q1, .ref q7, .ref q11, .ref q16, .ref q20, .ref q22, .ref q26, .ref q30, .int 100])), (q1, .inr (4, [.ref q2, .ref q3, .ref q4, .ref q5, .ref q6, .int 0, .int (-1), .int (-1), .int 0, .int 0, .int 4])), (q2, .inl (cA, 79, .inl (fun _ => 0))), (q3, .inl (cA, 16, .inl (fun _ => 0))), (q4, .inl (cA, 16, .inl (fun _ => 0))), (q5, .inl (cA, 16, .inl (fun _ => 0))), (q6, .inl (cA, 16, .inl (fun _ => 0))), (q7, .inr (7, [.ref q1, .ref q8, .ref q9, .ref q10, .int 0])), (q8, .inl (cA, 16, .inl (fun _ => 0))), (q9, .inl (cA, 8, .inl (fun _ => 0))), (q10, .inl (cA, 8, .inl (fun _ => 0))), (q11, .inr (0, [.ref q7, .ref q1, .ref q12, .ref q13, .ref q14, .ref q15, .int 0])), (q12, .inl (cA, 16, .inl (fun _ => 0))), (q13, .inl (cA, 16, .inl (fun _ => 0))), (q14, .inl (cA, 17, .inl (fun _ => 0))), (q15, .inl (cA, 16, .inl (fun _ => 0))), (q16, .inr (1, [.ref q7, .ref q1, .ref q17, .ref q18, .ref q19])), (q17, .inl (cA, 16, .inl (fun _ => 0))), (q18, .inl (cA, 8, .inl (fun _ => 0))), (q19, .inl (cA, 8, .inl (fun _ => 0))), (q20, .inr (3, [.ref q11, .ref q7, .ref q21, .int 0, .int 0, .int 0])), (q21, .inl (cA, 8, .inl (fun _ => 0))), (q22, .inr (5, [.ref q1, .ref q23, .ref q24, .ref q25])), (q23, .inl (cA, 8, .inl (fun _ => 0))), (q24, .inl (cA, 16, .inl (fun _ => 0))), (q25, .inl (cA, 16, .inl (fun _ => 0))), (q26, .inr (2, [.ref q27, .ref q28, .ref q29, .int 0, .int 0])), (q27, .inl (cA, 8, .inl (fun _ => 0))), (q28, .inl (cA, 8, .inl (fun _ => 0))), (q29, .inl (cA, 6, .inl (fun _ => 0))), (q30, .inr (6, [.ref q31, .ref q32, .ref q33, .int 0])), (q31, .inl (cA, 240, .inl (fun _ => 0))), (q32, .inl (cA, 4, .inl (upd (upd (upd (upd (fun _ => 0) 0 (-1)) 1 (-1)) 2 (-1)) 3 (-1)))), (q33, .inl (cA, 4, .inl (fun _ => 0)))] := hD2
  have hS := hS1
  clear hP1 hP2 hD1 hD2 hk1 hFc hS1 hz1
  refine lv_astore_n (lv' := [(1, .ref q0), (0, .ref b)]) hx hb (dx D_law0 3 rfl) rfl hl (by decide) rfl (fun ls hl => ?_)
  obtain ⟨C2, T2, t2, v1, v2, v3, v4, v5, v6, v7⟩ := nw_RL_10
  refine va_new (ci := 9) (fs := [.null, .null, .null, .null, .int 0, .null, .int 0, .int 0, .int 0, .null, .null, .int 0, .null, .null, .null, .int 0, .int 0, .int 0, .null, .null, .null, .null, .null, .null, .null, .null, .int 0, .null, .int 0, .null]) (C := C2) (T := T2) (N := 30) hx hb htg v2 t2 v3 hown (htg _ v4) (htg _ v5) (htg _ v6) hK hP hD hS hA v1 v7 (Nat.le_of_ble_eq_true rfl) (Nat.le_of_ble_eq_true rfl) (dx D_law0 4 rfl) (fun m0 H hP hD hS => ?_)
  refine lv_dup hx hb (dx D_law0 5 rfl) rfl ?_
  obtain ⟨k1, k2, kin, k3, k4, k5, k6, k7⟩ := lk_RL_12
  have hPc := hP.sub (ws' := [(m0, .inr (9, [.null, .null, .null, .null, .int 0, .null, .int 0, .int 0, .int 0, .null, .null, .int 0, .null, .null, .null, .int 0, .int 0, .int 0, .null, .null, .null, .null, .null, .null, .null, .null, .int 0, .null, .int 0, .null]))]) [34] rfl
  have hDc := hD.sub (ws' := [(m0, .inr (9, [.null, .null, .null, .null, .int 0, .null, .int 0, .int 0, .int 0, .null, .null, .int 0, .null, .null, .null, .int 0, .int 0, .int 0, .null, .null, .null, .null, .null, .null, .null, .null, .int 0, .null, .int 0, .null]))]) [34] (by decide) rfl
  have hFc := va_free (wc := [(m0, .inr (9, [.null, .null, .null, .null, .int 0, .null, .int 0, .int 0, .int 0, .null, .null, .int 0, .null, .null, .null, .int 0, .int 0, .int 0, .null, .null, .null, .null, .null, .null, .null, .null, .int 0, .null, .int 0, .null]))]) hD hS hA [34] rfl
  refine va_callv (rest := [.ref m0]) (va_runI (As := []) (Ts := gtbl) ⟨hx, hb, hml, hown, htg⟩ (cn_X9 (cA := cA) m0 l (dC, dI) H.size) ⟨callB_of 0 htg (gtbl_in k4) rfl rfl rfl (htg _ k3) (htg _ k1) k5 ⟨Nat.le_of_ble_eq_true rfl, Nat.le_of_ble_eq_true rfl⟩, kin, htg _ k2⟩ ⟨kn_blind, fun U hU hW => ⟨rfl, by rw [hU], by rw [hU]; exact hPc, va_K.moved hW.alike hK, hDc.weaken (fun _ _ _ _ => trivial), nst_moved hN hW⟩⟩ rfl rfl hl.1 rfl (lv_room (Nat.le_of_ble_eq_true rfl)) (dx D_law0 6 rfl) ⟨Nat.le_of_ble_eq_true rfl, Nat.le_of_ble_eq_true rfl⟩) hS (fun q _ h => hFc q h) hFc (fun w1 t2 H2 locs2 ht2 hvm2 hw hB hz2 hk2 hS2 => ?_)
  obtain ⟨m1, m2, m3, m4, m5, m6, m7, m8, m9, m10, m11, m12, m13, m14, m15, m16, m17, m18, m19, m20, rfl⟩ := hw
  obtain ⟨hP1, hD1⟩ := hB
  rw [ht2] at hP1
  obtain ⟨hP3, hD3⟩ := va_join (wr := [(q0, .inr (8, [.ref q1, .ref q7, .ref q11, .ref q16, .ref q20, .ref q22, .ref q26, .ref q30, .int 100])), (q1, .inr (4, [.ref q2, .ref q3, .ref q4, .ref q5, .ref q6, .int 0, .int (-1), .int (-1), .int 0, .int 0, .int 4])), (q2, .inl (cA, 79, .inl (fun _ => 0))), (q3, .inl (cA, 16, .inl (fun _ => 0))), (q4, .inl (cA, 16, .inl (fun _ => 0))), (q5, .inl (cA, 16, .inl (fun _ => 0))), (q6, .inl (cA, 16, .inl (fun _ => 0))), (q7, .inr (7, [.ref q1, .ref q8, .ref q9, .ref q10, .int 0])), (q8, .inl (cA, 16, .inl (fun _ => 0))), (q9, .inl (cA, 8, .inl (fun _ => 0))), (q10, .inl (cA, 8, .inl (fun _ => 0))), (q11, .inr (0, [.ref q7, .ref q1, .ref q12, .ref q13, .ref q14, .ref q15, .int 0])), (q12, .inl (cA, 16, .inl (fun _ => 0))), (q13, .inl (cA, 16, .inl (fun _ => 0))), (q14, .inl (cA, 17, .inl (fun _ => 0))), (q15, .inl (cA, 16, .inl (fun _ => 0))), (q16, .inr (1, [.ref q7, .ref q1, .ref q17, .ref q18, .ref q19])), (q17, .inl (cA, 16, .inl (fun _ => 0))), (q18, .inl (cA, 8, .inl (fun _ => 0))), (q19, .inl (cA, 8, .inl (fun _ => 0))), (q20, .inr (3, [.ref q11, .ref q7, .ref q21, .int 0, .int 0, .int 0])), (q21, .inl (cA, 8, .inl (fun _ => 0))), (q22, .inr (5, [.ref q1, .ref q23, .ref q24, .ref q25])), (q23, .inl (cA, 8, .inl (fun _ => 0))), (q24, .inl (cA, 16, .inl (fun _ => 0))), (q25, .inl (cA, 16, .inl (fun _ => 0))), (q26, .inr (2, [.ref q27, .ref q28, .ref q29, .int 0, .int 0])), (q27, .inl (cA, 8, .inl (fun _ => 0))), (q28, .inl (cA, 8, .inl (fun _ => 0))), (q29, .inl (cA, 6, .inl (fun _ => 0))), (q30, .inr (6, [.ref q31, .ref q32, .ref q33, .int 0])), (q31, .inl (cA, 240, .inl (fun _ => 0))), (q32, .inl (cA, 4, .inl (upd (upd (upd (upd (fun _ => 0) 0 (-1)) 1 (-1)) 2 (-1)) 3 (-1)))), (q33, .inl (cA, 4, .inl (fun _ => 0)))]) hP hD [34] [0, 1, 2, 3, 4, 5, 6, 7, 8, 9, 10, 11, 12, 13, 14, 15, 16, 17, 18, 19, 20, 21, 22, 23, 24, 25, 26, 27, 28, 29, 30, 31, 32, 33] rfl rfl (by decide) (by decide) hk2 hFc hP1 hD1
  have hP : va_P (dC, dI) vwCl (w00 cA q0 q1 q2 q3 q4 q5 q6 q7 q8 q9 q10 q11 q12 q13 q14 q15 q16 q17 q18 q19 q20 q21 q22 q23 q24 q25 q26 q27 q28 q29 q30 q31 q32 q33 m0 m1 m2 m3 m4 m5 m6 m7 m8 m9 m10 m11 m12 m13 m14 m15 m16 m17 m18 m19 m20) H2 := hP3
  have hD : va_D (fun q : Nat => s.heap.size ≤ q) (w00 cA q0 q1 q2 q3 q4 q5 q6 q7 q8 q9 q10 q11 q12 q13 q14 q15 q16 q17 q18 q19 q20 q21 q22 q23 q24 q25 q26 q27 q28 q29 q30 q31 q32 q33 m0 m1 m2 m3 m4 m5 m6 m7 m8 m9 m10 m11 m12 m13 m14 m15 m16 m17 m18 m19 m20) := hD3
  have hS := hS2
  clear hP1 hP3 hD1 hD3 hk2 hFc hS2 hz2 hPc hDc
  refine lv_astore_n (lv' := [(2, .ref m0), (1, .ref q0), (0, .ref b)]) hx hb (dx D_law0 7 rfl) rfl hl (by decide) rfl (fun ls hl => ?_)
  refine lv_iconst (v := 0) hx hb (dx D_law0 8 rfl) (by decide) ?_
  refine lv_istore_n (lv' := [(3, .int 0), (2, .ref m0), (1, .ref q0), (0, .ref b)]) hx hb (dx D_law0 9 rfl) rfl hl (by decide) rfl (fun ls hl => ?_)
  refine va_forget (fun q hq => hS.2.2 q hq) ?_
  have he := e55 cA b q0 q1 q2 q3 q4 q5 q6 q7 q8 q9 q10 q11 q12 q13 q14 q15 q16 q17 q18 q19 q20 q21 q22 q23 q24 q25 q26 q27 q28 q29 q30 q31 q32 q33 m0 m1 m2 m3 m4 m5 m6 m7 m8 m9 m10 m11 m12 m13 m14 m15 m16 m17 m18 m19 m20
  have hsh : ∀ k, k < 55 → ∃ cc, shape[k]? = some cc := fun k hk => ⟨_, List.getElem?_eq_getElem (show k < shape.length from hk)⟩
  have hge : ∀ k, k < 55 → s.heap.size ≤ ad0 b q0 q1 q2 q3 q4 q5 q6 q7 q8 q9 q10 q11 q12 q13 q14 q15 q16 q17 q18 q19 q20 q21 q22 q23 q24 q25 q26 q27 q28 q29 q30 q31 q32 q33 m0 m1 m2 m3 m4 m5 m6 m7 m8 m9 m10 m11 m12 m13 m14 m15 m16 m17 m18 m19 m20 k := fun k hk => by
    obtain ⟨cc, hcc⟩ := hsh k hk
    exact hD.2 k _ (he k hk cc hcc)
  have hI : adI (ad0 b q0 q1 q2 q3 q4 q5 q6 q7 q8 q9 q10 q11 q12 q13 q14 q15 q16 q17 q18 q19 q20 q21 q22 q23 q24 q25 q26 q27 q28 q29 q30 q31 q32 q33 m0 m1 m2 m3 m4 m5 m6 m7 m8 m9 m10 m11 m12 m13 m14 m15 m16 m17 m18 m19 m20) := fun i j hi hj e => by
    obtain ⟨ci, hci⟩ := hsh i hi
    obtain ⟨cj, hcj⟩ := hsh j hj
    exact hD.1 i j _ _ (he i hi ci hci) (he j hj cj hcj) e
  have h99 : ad0 b q0 q1 q2 q3 q4 q5 q6 q7 q8 q9 q10 q11 q12 q13 q14 q15 q16 q17 q18 q19 q20 q21 q22 q23 q24 q25 q26 q27 q28 q29 q30 q31 q32 q33 m0 m1 m2 m3 m4 m5 m6 m7 m8 m9 m10 m11 m12 m13 m14 m15 m16 m17 m18 m19 m20 99 = b := rfl
  have hPw : va_P (dC, dI) vwCl (wl (ad0 b q0 q1 q2 q3 q4 q5 q6 q7 q8 q9 q10 q11 q12 q13 q14 q15 q16 q17 q18 q19 q20 q21 q22 q23 q24 q25 q26 q27 q28 q29 q30 q31 q32 q33 m0 m1 m2 m3 m4 m5 m6 m7 m8 m9 m10 m11 m12 m13 m14 m15 m16 m17 m18 m19 m20) cA g00) H2 := fun k q hk => by
    obtain ⟨cc, hcc, rfl⟩ := wl_of hk
    exact hP k _ (he k (shape_lt hcc) cc hcc)
  have hbA : ¬ wA (ad0 b q0 q1 q2 q3 q4 q5 q6 q7 q8 q9 q10 q11 q12 q13 q14 q15 q16 q17 q18 q19 q20 q21 q22 q23 q24 q25 q26 q27 q28 q29 q30 q31 q32 q33 m0 m1 m2 m3 m4 m5 m6 m7 m8 m9 m10 m11 m12 m13 m14 m15 m16 m17 m18 m19 m20) b := fun h => by
    obtain ⟨k, hk, e⟩ := h
    have := hge k hk
    omega
  have hlw : lh (ad0 b q0 q1 q2 q3 q4 q5 q6 q7 q8 q9 q10 q11 q12 q13 q14 q15 q16 q17 q18 q19 q20 q21 q22 q23 q24 q25 q26 q27 q28 q29 q30 q31 q32 q33 m0 m1 m2 m3 m4 m5 m6 m7 m8 m9 m10 m11 m12 m13 m14 m15 m16 m17 m18 m19 m20) ls 4 (LLw (nI 0)) := by
    refine ⟨hl.1, hl.2.1, fun i v hi => ?_⟩
    match i, hi with
    | 0, hi => obtain rfl : Value.ref 99 = v := by simpa using hi
               exact hl.2.2 (0, .ref b) (by simp)
    | 1, hi => obtain rfl : Value.ref 0 = v := by simpa using hi
               exact hl.2.2 (1, .ref q0) (by simp)
    | 2, hi => obtain rfl : Value.ref 34 = v := by simpa using hi
               exact hl.2.2 (2, .ref m0) (by simp)
    | 3, hi => obtain rfl : Value.int (nI 0) = v := by simpa using hi
               exact hl.2.2 (3, .int 0) (by simp)
    | i + 4, hi => simp at hi
  refine law_loop (xs := xs) hL (L + 1) 0 g00 (by omega) (by omega) rel00 p l e room_1 s m #[Value.ref b] below meth c (dC, dI) (ad0 b q0 q1 q2 q3 q4 q5 q6 q7 q8 q9 q10 q11 q12 q13 q14 q15 q16 q17 q18 q19 q20 q21 q22 q23 q24 q25 q26 q27 q28 q29 q30 q31 q32 q33 m0 m1 m2 m3 m4 m5 m6 m7 m8 m9 m10 m11 m12 m13 m14 m15 m16 m17 m18 m19 m20) cA 55 1355 _ ⟨hx, hb, hml, hr, hlocks, hown, htg, hN, hK, hI, Nat.le_of_ble_eq_true rfl, Nat.le_of_ble_eq_true rfl, Nat.le_of_ble_eq_true rfl, Nat.le_of_ble_eq_true rfl⟩ ⟨by rw [h99]; exact hX, by rw [h99]; exact hbl, by rw [h99]; exact hbA⟩ (fun v g' hv => ?_) H2 [] ls hPw ⟨hS.1, fun q h1 _ => hS.2.1 q h1 (Nat.not_le.mpr h1), fun q hq => by cases hq⟩ hlw
  intro H' locs' pc' ls' hP' hS' hR'
  obtain rfl : v = some (.int 1) := hv
  refine va_forget (fun q hq => ?_) (lw_ret hx hb hr hlocks hR'.1)
  obtain ⟨k, hk, e⟩ := hS'.2.2 q hq
  have := hge k hk
  omega
