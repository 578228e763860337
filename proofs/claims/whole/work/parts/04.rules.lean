/-! from Wp to a contract, and a row an instruction -/
theorem Cl.of {M : MI} {as : List Value} {g : Sg} {Q : Option Value → Sg → Prop} (n : Nat) (hy : Jvm.plainName M.1.cls = true) (hn : (enL as).length + n = M.2.2.1) (h : Wp M (fun _ _ => True) 0 (enL as ++ List.replicate n none) [] g Q) : Cl M as g Q := by
  intro l D ad cA hI
  refine Met.ofW (cc := M.2.1) (maxL := M.2.2.1) (ret := M.2.2.2.1) hy rfl ?_
  intro p e s m args below meth c s₁ B hml hv
  obtain ⟨rfl, hP, hK, hN⟩ := hv
  have hts := atoms_spec (ws := Cond.code M.1 M.2.1 M.2.2.1 M.2.2.2.1 :: gtbl) B.pre
  have hown : s.vm.findClass M.1.cls = some m.cls := findClass_of_methodNamed B.named
  have hle : (lg_sl (as.map (rv ad))).length ≤ M.2.2.1 := by rw [enL_len]; omega
  have hl := lv_entry (as.map (rv ad)) hle
  rw [lg_entry_eq]
  have hlh : lh ad ((lg_sl (as.map (rv ad)) ++ List.replicate (M.2.2.1 - (lg_sl (as.map (rv ad))).length) Slot.unset).toArray) M.2.2.1 (enL as ++ List.replicate n none) := by
    refine ⟨hl.1, hl.2.1, fun i v hi => ?_⟩
    by_cases hil : i < (enL as).length
    · rw [List.getElem?_append_left hil] at hi
      have := enL_args (ad := ad) as 0 i v hi
      rw [Nat.zero_add] at this
      exact hl.2.2 _ this
    · rw [List.getElem?_append_right (by omega)] at hi
      have := List.eq_of_mem_replicate (List.mem_of_getElem? hi)
      cases this
  refine h p l e _ s m _ below meth c D ad cA 0 0 _ ⟨B.exec, B.bytes, hml, B.returns, B.notSynchronized, hown, fun w hw => hts w (List.mem_cons_of_mem _ hw), hN, hK, hI, Nat.le_refl _, Nat.le_refl _, Nat.zero_le _, Nat.zero_le _⟩ trivial ?_ s.heap [] _ hP va_S.rf hlh
  intro v g' hq H locs pc ls hP hS hR
  have hlk := B.notSynchronized
  match v, hR with
  | none, hR => exact W.vret B.exec B.bytes (B.returns.trans hR.2) (fun t ht hW => ⟨⟨none, g', rfl, hq, by rw [ht]; exact hP⟩, hS.F ht⟩) hS.2.2 hR.1
  | some (.int x), hR =>
    obtain ⟨hd, ty, h1, h2⟩ := hR
    exact W.zret B.exec B.bytes (B.returns.trans h1) h2 (fun t ht hW => ⟨⟨some (.int x), g', rfl, hq, by rw [ht]; exact hP⟩, hS.F ht⟩) hS.2.2 hd
  | some (.long x), hR => exact W.lret B.exec B.bytes (B.returns.trans hR.2) (fun t ht hW => ⟨⟨some (.long x), g', rfl, hq, by rw [ht]; exact hP⟩, hS.F ht⟩) hS.2.2 hR.1
section Ev
variable {M : MI} {E : State → (Nat → Nat) → Prop} {pc : Nat} {L : Ls} {st : List Value} {g : Sg} {Q : Option Value → Sg → Prop}
theorem e_iconst {n : Int} (hd : decode M.2.1 pc = .ok (.iconst n, 1)) (k : Wp M E (pc + 1) L (.int (Int32.ofInt n) :: st) g Q) : Wp M E pc L st g Q :=
  fun p l e R s m args below meth c D ad cA cells slots Qf C hE hQ H locs ls hP hS hl => lv_iconst C.1 C.2.1 hd rfl (k p l e R s m args below meth c D ad cA cells slots Qf C hE hQ H locs ls hP hS hl)
theorem e_bipush {n : Int} (hd : decode M.2.1 pc = .ok (.bipush n, 2)) (k : Wp M E (pc + 2) L (.int (Int8.ofInt n).toInt32 :: st) g Q) : Wp M E pc L st g Q :=
  fun p l e R s m args below meth c D ad cA cells slots Qf C hE hQ H locs ls hP hS hl => lv_bipush C.1 C.2.1 hd rfl (k p l e R s m args below meth c D ad cA cells slots Qf C hE hQ H locs ls hP hS hl)
theorem e_sipush {n : Int} (hd : decode M.2.1 pc = .ok (.sipush n, 3)) (k : Wp M E (pc + 3) L (.int (Int16.ofInt n).toInt32 :: st) g Q) : Wp M E pc L st g Q :=
  fun p l e R s m args below meth c D ad cA cells slots Qf C hE hQ H locs ls hP hS hl => lv_sipush C.1 C.2.1 hd rfl (k p l e R s m args below meth c D ad cA cells slots Qf C hE hQ H locs ls hP hS hl)
theorem e_lconst {n : Fin 2} (hd : decode M.2.1 pc = .ok (.lconst n, 1)) (k : Wp M E (pc + 1) L (.long (Int64.ofNat (n : Nat)) :: st) g Q) : Wp M E pc L st g Q :=
  fun p l e R s m args below meth c D ad cA cells slots Qf C hE hQ H locs ls hP hS hl => lv_lconst C.1 C.2.1 hd rfl (k p l e R s m args below meth c D ad cA cells slots Qf C hE hQ H locs ls hP hS hl)
theorem e_ldc {idx : Nat} {v : Int32} (hd : decode M.2.1 pc = .ok (.ldc idx, 2)) (hc : Cond.constant M.1.cls idx v ∈ gtbl) (k : Wp M E (pc + 2) L (.int v :: st) g Q) : Wp M E pc L st g Q :=
  fun p l e R s m args below meth c D ad cA cells slots Qf C hE hQ H locs ls hP hS hl => lv_ldc C.1 C.2.1 C.2.2.2.2.2.1 (C.2.2.2.2.2.2.1 _ hc) hd (k p l e R s m args below meth c D ad cA cells slots Qf C hE hQ H locs ls hP hS hl)
theorem e_ldcw {idx : Nat} {v : Int32} (hd : decode M.2.1 pc = .ok (.ldc_w idx, 3)) (hc : Cond.constant M.1.cls idx v ∈ gtbl) (k : Wp M E (pc + 3) L (.int v :: st) g Q) : Wp M E pc L st g Q :=
  fun p l e R s m args below meth c D ad cA cells slots Qf C hE hQ H locs ls hP hS hl => lv_ldcw C.1 C.2.1 C.2.2.2.2.2.1 (C.2.2.2.2.2.2.1 _ hc) hd (k p l e R s m args below meth c D ad cA cells slots Qf C hE hQ H locs ls hP hS hl)
theorem e_ldc2 {idx : Nat} {v : Int64} (hd : decode M.2.1 pc = .ok (.ldc2_w idx, 3)) (hc : Cond.constantLong M.1.cls idx v ∈ gtbl) (k : Wp M E (pc + 3) L (.long v :: st) g Q) : Wp M E pc L st g Q :=
  fun p l e R s m args below meth c D ad cA cells slots Qf C hE hQ H locs ls hP hS hl => lv_ldc2 C.1 C.2.1 C.2.2.2.2.2.1 (C.2.2.2.2.2.2.1 _ hc) hd (k p l e R s m args below meth c D ad cA cells slots Qf C hE hQ H locs ls hP hS hl)
theorem e_iload_n {j : Fin 4} {x : Int32} (hd : decode M.2.1 pc = .ok (.iload_n j, 1)) (hx : L[(j : Nat)]? = some (some (.int x))) (k : Wp M E (pc + 1) L (.int x :: st) g Q) : Wp M E pc L st g Q :=
  fun p l e R s m args below meth c D ad cA cells slots Qf C hE hQ H locs ls hP hS hl => lv_iload_n C.1 C.2.1 hd rfl (hl.2.2 _ _ hx) (k p l e R s m args below meth c D ad cA cells slots Qf C hE hQ H locs ls hP hS hl)
theorem e_iload {j : Nat} {x : Int32} (hd : decode M.2.1 pc = .ok (.iload j, 2)) (hx : L[j]? = some (some (.int x))) (k : Wp M E (pc + 2) L (.int x :: st) g Q) : Wp M E pc L st g Q :=
  fun p l e R s m args below meth c D ad cA cells slots Qf C hE hQ H locs ls hP hS hl => lv_iload C.1 C.2.1 hd (hl.2.2 _ _ hx) (k p l e R s m args below meth c D ad cA cells slots Qf C hE hQ H locs ls hP hS hl)
theorem e_lload_n {j : Fin 4} {x : Int64} (hd : decode M.2.1 pc = .ok (.lload_n j, 1)) (hx : L[(j : Nat)]? = some (some (.long x))) (k : Wp M E (pc + 1) L (.long x :: st) g Q) : Wp M E pc L st g Q :=
  fun p l e R s m args below meth c D ad cA cells slots Qf C hE hQ H locs ls hP hS hl => lv_lload_n C.1 C.2.1 hd rfl (hl.2.2 _ _ hx) (k p l e R s m args below meth c D ad cA cells slots Qf C hE hQ H locs ls hP hS hl)
theorem e_lload {j : Nat} {x : Int64} (hd : decode M.2.1 pc = .ok (.lload j, 2)) (hx : L[j]? = some (some (.long x))) (k : Wp M E (pc + 2) L (.long x :: st) g Q) : Wp M E pc L st g Q :=
  fun p l e R s m args below meth c D ad cA cells slots Qf C hE hQ H locs ls hP hS hl => lv_lload C.1 C.2.1 hd (hl.2.2 _ _ hx) (k p l e R s m args below meth c D ad cA cells slots Qf C hE hQ H locs ls hP hS hl)
theorem e_aload_n {j : Fin 4} {x : Nat} (hd : decode M.2.1 pc = .ok (.aload_n j, 1)) (hx : L[(j : Nat)]? = some (some (.ref x))) (k : Wp M E (pc + 1) L (.ref x :: st) g Q) : Wp M E pc L st g Q :=
  fun p l e R s m args below meth c D ad cA cells slots Qf C hE hQ H locs ls hP hS hl => lv_aload_n C.1 C.2.1 hd rfl (hl.2.2 _ _ hx) (k p l e R s m args below meth c D ad cA cells slots Qf C hE hQ H locs ls hP hS hl)
theorem e_aload {j : Nat} {x : Nat} (hd : decode M.2.1 pc = .ok (.aload j, 2)) (hx : L[j]? = some (some (.ref x))) (k : Wp M E (pc + 2) L (.ref x :: st) g Q) : Wp M E pc L st g Q :=
  fun p l e R s m args below meth c D ad cA cells slots Qf C hE hQ H locs ls hP hS hl => lv_aload C.1 C.2.1 hd (hl.2.2 _ _ hx) (k p l e R s m args below meth c D ad cA cells slots Qf C hE hQ H locs ls hP hS hl)
theorem e_istore_n {j : Fin 4} {x : Int32} (hd : decode M.2.1 pc = .ok (.istore_n j, 1)) (hn : (j : Nat) < M.2.2.1) (k : Wp M E (pc + 1) (st1 L j (.int x)) st g Q) : Wp M E pc L (.int x :: st) g Q :=
  fun p l e R s m args below meth c D ad cA cells slots Qf C hE hQ H locs ls hP hS hl => lv_istore_n C.1 C.2.1 hd rfl hl.has hn rfl (fun ls' hl' => k p l e R s m args below meth c D ad cA cells slots Qf C hE hQ H locs ls' hP hS (lh_st1 hl'))
theorem e_istore {j : Nat} {x : Int32} (hd : decode M.2.1 pc = .ok (.istore j, 2)) (hn : j < M.2.2.1) (k : Wp M E (pc + 2) (st1 L j (.int x)) st g Q) : Wp M E pc L (.int x :: st) g Q :=
  fun p l e R s m args below meth c D ad cA cells slots Qf C hE hQ H locs ls hP hS hl => lv_istore C.1 C.2.1 hd hl.has hn rfl (fun ls' hl' => k p l e R s m args below meth c D ad cA cells slots Qf C hE hQ H locs ls' hP hS (lh_st1 hl'))
theorem e_lstore_n {j : Fin 4} {x : Int64} (hd : decode M.2.1 pc = .ok (.lstore_n j, 1)) (hn : (j : Nat) + 1 < M.2.2.1) (k : Wp M E (pc + 1) (st2 L j (.long x)) st g Q) : Wp M E pc L (.long x :: st) g Q :=
  fun p l e R s m args below meth c D ad cA cells slots Qf C hE hQ H locs ls hP hS hl => lv_lstore_n C.1 C.2.1 hd rfl hl.has hn rfl (fun ls' hl' => k p l e R s m args below meth c D ad cA cells slots Qf C hE hQ H locs ls' hP hS (lh_st2 hl'))
theorem e_lstore {j : Nat} {x : Int64} (hd : decode M.2.1 pc = .ok (.lstore j, 2)) (hn : j + 1 < M.2.2.1) (k : Wp M E (pc + 2) (st2 L j (.long x)) st g Q) : Wp M E pc L (.long x :: st) g Q :=
  fun p l e R s m args below meth c D ad cA cells slots Qf C hE hQ H locs ls hP hS hl => lv_lstore C.1 C.2.1 hd hl.has hn rfl (fun ls' hl' => k p l e R s m args below meth c D ad cA cells slots Qf C hE hQ H locs ls' hP hS (lh_st2 hl'))
theorem e_astore_n {j : Fin 4} {x : Nat} (hd : decode M.2.1 pc = .ok (.astore_n j, 1)) (hn : (j : Nat) < M.2.2.1) (k : Wp M E (pc + 1) (st1 L j (.ref x)) st g Q) : Wp M E pc L (.ref x :: st) g Q :=
  fun p l e R s m args below meth c D ad cA cells slots Qf C hE hQ H locs ls hP hS hl => lv_astore_n C.1 C.2.1 hd rfl hl.has hn rfl (fun ls' hl' => k p l e R s m args below meth c D ad cA cells slots Qf C hE hQ H locs ls' hP hS (lh_st1 hl'))
theorem e_astore {j : Nat} {x : Nat} (hd : decode M.2.1 pc = .ok (.astore j, 2)) (hn : j < M.2.2.1) (k : Wp M E (pc + 2) (st1 L j (.ref x)) st g Q) : Wp M E pc L (.ref x :: st) g Q :=
  fun p l e R s m args below meth c D ad cA cells slots Qf C hE hQ H locs ls hP hS hl => lv_astore C.1 C.2.1 hd hl.has hn rfl (fun ls' hl' => k p l e R s m args below meth c D ad cA cells slots Qf C hE hQ H locs ls' hP hS (lh_st1 hl'))
theorem e_iinc {j : Nat} {n : Int} {x : Int32} (hd : decode M.2.1 pc = .ok (.iinc j n, 3)) (hx : L[j]? = some (some (.int x))) (hn : j < M.2.2.1) (k : Wp M E (pc + 3) (st1 L j (.int (x + Int32.ofInt n))) st g Q) : Wp M E pc L st g Q := by
  intro p l e R s m args below meth c D ad cA cells slots Qf C hE hQ H locs ls hP hS hl
  obtain ⟨i, hi⟩ := List.getElem?_of_mem (mem_prs (ad := ad) hx)
  exact lv_iinc C.1 C.2.1 hd hl.has hi rfl hn rfl (fun ls' hl' => k p l e R s m args below meth c D ad cA cells slots Qf C hE hQ H locs ls' hP hS (lh_st1 hl'))
theorem e_iadd {x y : Int32} (hd : decode M.2.1 pc = .ok (.iadd, 1)) (k : Wp M E (pc + 1) L (.int (x + y) :: st) g Q) : Wp M E pc L (.int y :: .int x :: st) g Q :=
  fun p l e R s m args below meth c D ad cA cells slots Qf C hE hQ H locs ls hP hS hl => lv_iadd C.1 C.2.1 hd (k p l e R s m args below meth c D ad cA cells slots Qf C hE hQ H locs ls hP hS hl)
theorem e_isub {x y : Int32} (hd : decode M.2.1 pc = .ok (.isub, 1)) (k : Wp M E (pc + 1) L (.int (x - y) :: st) g Q) : Wp M E pc L (.int y :: .int x :: st) g Q :=
  fun p l e R s m args below meth c D ad cA cells slots Qf C hE hQ H locs ls hP hS hl => lv_isub C.1 C.2.1 hd (k p l e R s m args below meth c D ad cA cells slots Qf C hE hQ H locs ls hP hS hl)
theorem e_imul {x y : Int32} (hd : decode M.2.1 pc = .ok (.imul, 1)) (k : Wp M E (pc + 1) L (.int (x * y) :: st) g Q) : Wp M E pc L (.int y :: .int x :: st) g Q :=
  fun p l e R s m args below meth c D ad cA cells slots Qf C hE hQ H locs ls hP hS hl => lv_imul C.1 C.2.1 hd (k p l e R s m args below meth c D ad cA cells slots Qf C hE hQ H locs ls hP hS hl)
theorem e_iand {x y : Int32} (hd : decode M.2.1 pc = .ok (.iand, 1)) (k : Wp M E (pc + 1) L (.int (x &&& y) :: st) g Q) : Wp M E pc L (.int y :: .int x :: st) g Q :=
  fun p l e R s m args below meth c D ad cA cells slots Qf C hE hQ H locs ls hP hS hl => lv_iand C.1 C.2.1 hd (k p l e R s m args below meth c D ad cA cells slots Qf C hE hQ H locs ls hP hS hl)
theorem e_ior {x y : Int32} (hd : decode M.2.1 pc = .ok (.ior, 1)) (k : Wp M E (pc + 1) L (.int (x ||| y) :: st) g Q) : Wp M E pc L (.int y :: .int x :: st) g Q :=
  fun p l e R s m args below meth c D ad cA cells slots Qf C hE hQ H locs ls hP hS hl => lv_ior C.1 C.2.1 hd (k p l e R s m args below meth c D ad cA cells slots Qf C hE hQ H locs ls hP hS hl)
theorem e_ixor {x y : Int32} (hd : decode M.2.1 pc = .ok (.ixor, 1)) (k : Wp M E (pc + 1) L (.int (x ^^^ y) :: st) g Q) : Wp M E pc L (.int y :: .int x :: st) g Q :=
  fun p l e R s m args below meth c D ad cA cells slots Qf C hE hQ H locs ls hP hS hl => lv_ixor C.1 C.2.1 hd (k p l e R s m args below meth c D ad cA cells slots Qf C hE hQ H locs ls hP hS hl)
theorem e_idiv {x y : Int32} (hd : decode M.2.1 pc = .ok (.idiv, 1)) (hy : ¬ y = 0) (k : Wp M E (pc + 1) L (.int (x / y) :: st) g Q) : Wp M E pc L (.int y :: .int x :: st) g Q :=
  fun p l e R s m args below meth c D ad cA cells slots Qf C hE hQ H locs ls hP hS hl => lv_idiv C.1 C.2.1 hd hy (k p l e R s m args below meth c D ad cA cells slots Qf C hE hQ H locs ls hP hS hl)
theorem e_irem {x y : Int32} (hd : decode M.2.1 pc = .ok (.irem, 1)) (hy : ¬ y = 0) (k : Wp M E (pc + 1) L (.int (x - x / y * y) :: st) g Q) : Wp M E pc L (.int y :: .int x :: st) g Q :=
  fun p l e R s m args below meth c D ad cA cells slots Qf C hE hQ H locs ls hP hS hl => lv_irem C.1 C.2.1 hd hy (k p l e R s m args below meth c D ad cA cells slots Qf C hE hQ H locs ls hP hS hl)
theorem e_ineg {x : Int32} (hd : decode M.2.1 pc = .ok (.ineg, 1)) (k : Wp M E (pc + 1) L (.int (-x) :: st) g Q) : Wp M E pc L (.int x :: st) g Q :=
  fun p l e R s m args below meth c D ad cA cells slots Qf C hE hQ H locs ls hP hS hl => lv_ineg C.1 C.2.1 hd (k p l e R s m args below meth c D ad cA cells slots Qf C hE hQ H locs ls hP hS hl)
theorem e_ladd {x y : Int64} (hd : decode M.2.1 pc = .ok (.ladd, 1)) (k : Wp M E (pc + 1) L (.long (x + y) :: st) g Q) : Wp M E pc L (.long y :: .long x :: st) g Q :=
  fun p l e R s m args below meth c D ad cA cells slots Qf C hE hQ H locs ls hP hS hl => lv_ladd C.1 C.2.1 hd (k p l e R s m args below meth c D ad cA cells slots Qf C hE hQ H locs ls hP hS hl)
theorem e_lmul {x y : Int64} (hd : decode M.2.1 pc = .ok (.lmul, 1)) (k : Wp M E (pc + 1) L (.long (x * y) :: st) g Q) : Wp M E pc L (.long y :: .long x :: st) g Q :=
  fun p l e R s m args below meth c D ad cA cells slots Qf C hE hQ H locs ls hP hS hl => lv_lmul C.1 C.2.1 hd (k p l e R s m args below meth c D ad cA cells slots Qf C hE hQ H locs ls hP hS hl)
theorem e_lcmp {x y : Int64} (hd : decode M.2.1 pc = .ok (.lcmp, 1)) (k : Wp M E (pc + 1) L (.int (lg_cmp x y) :: st) g Q) : Wp M E pc L (.long y :: .long x :: st) g Q :=
  fun p l e R s m args below meth c D ad cA cells slots Qf C hE hQ H locs ls hP hS hl => W.lcmp C.1 C.2.1 hd (k p l e R s m args below meth c D ad cA cells slots Qf C hE hQ H locs ls hP hS hl)
theorem e_ishl {x y : Int32} (hd : decode M.2.1 pc = .ok (.ishl, 1)) (k : Wp M E (pc + 1) L (.int (x <<< (y &&& 31)) :: st) g Q) : Wp M E pc L (.int y :: .int x :: st) g Q :=
  fun p l e R s m args below meth c D ad cA cells slots Qf C hE hQ H locs ls hP hS hl => lv_ishl C.1 C.2.1 hd (k p l e R s m args below meth c D ad cA cells slots Qf C hE hQ H locs ls hP hS hl)
theorem e_ishr {x y : Int32} (hd : decode M.2.1 pc = .ok (.ishr, 1)) (k : Wp M E (pc + 1) L (.int (x >>> (y &&& 31)) :: st) g Q) : Wp M E pc L (.int y :: .int x :: st) g Q :=
  fun p l e R s m args below meth c D ad cA cells slots Qf C hE hQ H locs ls hP hS hl => lv_ishr C.1 C.2.1 hd (k p l e R s m args below meth c D ad cA cells slots Qf C hE hQ H locs ls hP hS hl)
theorem e_iushr {x y : Int32} (hd : decode M.2.1 pc = .ok (.iushr, 1)) (k : Wp M E (pc + 1) L (.int (x.toUInt32 >>> (y.toUInt32 &&& Int32.toUInt32 31)).toInt32 :: st) g Q) : Wp M E pc L (.int y :: .int x :: st) g Q :=
  fun p l e R s m args below meth c D ad cA cells slots Qf C hE hQ H locs ls hP hS hl => lv_iushr C.1 C.2.1 hd rfl (k p l e R s m args below meth c D ad cA cells slots Qf C hE hQ H locs ls hP hS hl)
theorem e_i2l {x : Int32} (hd : decode M.2.1 pc = .ok (.i2l, 1)) (k : Wp M E (pc + 1) L (.long x.toInt64 :: st) g Q) : Wp M E pc L (.int x :: st) g Q :=
  fun p l e R s m args below meth c D ad cA cells slots Qf C hE hQ H locs ls hP hS hl => lv_i2l C.1 C.2.1 hd rfl (k p l e R s m args below meth c D ad cA cells slots Qf C hE hQ H locs ls hP hS hl)
theorem e_i2b {x : Int32} (hd : decode M.2.1 pc = .ok (.i2b, 1)) (k : Wp M E (pc + 1) L (.int x.toInt8.toInt32 :: st) g Q) : Wp M E pc L (.int x :: st) g Q :=
  fun p l e R s m args below meth c D ad cA cells slots Qf C hE hQ H locs ls hP hS hl => lv_i2b C.1 C.2.1 hd rfl (k p l e R s m args below meth c D ad cA cells slots Qf C hE hQ H locs ls hP hS hl)
theorem e_i2s {x : Int32} (hd : decode M.2.1 pc = .ok (.i2s, 1)) (k : Wp M E (pc + 1) L (.int x.toInt16.toInt32 :: st) g Q) : Wp M E pc L (.int x :: st) g Q :=
  fun p l e R s m args below meth c D ad cA cells slots Qf C hE hQ H locs ls hP hS hl => lv_i2s C.1 C.2.1 hd rfl (k p l e R s m args below meth c D ad cA cells slots Qf C hE hQ H locs ls hP hS hl)
theorem e_dup {v : Value} (hd : decode M.2.1 pc = .ok (.dup, 1)) (hv : v.category = 1) (k : Wp M E (pc + 1) L (v :: v :: st) g Q) : Wp M E pc L (v :: st) g Q :=
  fun p l e R s m args below meth c D ad cA cells slots Qf C hE hQ H locs ls hP hS hl => lv_dup C.1 C.2.1 hd (by rw [rv_cat]; exact hv) (k p l e R s m args below meth c D ad cA cells slots Qf C hE hQ H locs ls hP hS hl)
theorem e_pop {v : Value} (hd : decode M.2.1 pc = .ok (.pop, 1)) (hv : v.category = 1) (k : Wp M E (pc + 1) L st g Q) : Wp M E pc L (v :: st) g Q :=
  fun p l e R s m args below meth c D ad cA cells slots Qf C hE hQ H locs ls hP hS hl => lv_pop C.1 C.2.1 hd (by rw [rv_cat]; exact hv) (k p l e R s m args below meth c D ad cA cells slots Qf C hE hQ H locs ls hP hS hl)
theorem e_dup2 {v w : Value} (hd : decode M.2.1 pc = .ok (.dup2, 1)) (hv : v.category = 1) (hw : w.category = 1) (k : Wp M E (pc + 1) L (v :: w :: v :: w :: st) g Q) : Wp M E pc L (v :: w :: st) g Q :=
  fun p l e R s m args below meth c D ad cA cells slots Qf C hE hQ H locs ls hP hS hl => lv_dup2_11 C.1 C.2.1 hd (by rw [rv_cat]; exact hv) (by rw [rv_cat]; exact hw) (k p l e R s m args below meth c D ad cA cells slots Qf C hE hQ H locs ls hP hS hl)
theorem e_goto {off : Int} {tgt : Nat} (hd : decode M.2.1 pc = .ok (.goto off, 3)) (ht : (pc : Int) + off = (tgt : Int)) (k : Wp M E tgt L st g Q) : Wp M E pc L st g Q :=
  fun p l e R s m args below meth c D ad cA cells slots Qf C hE hQ H locs ls hP hS hl => lv_goto C.1 C.2.1 hd ht (k p l e R s m args below meth c D ad cA cells slots Qf C hE hQ H locs ls hP hS hl)
theorem e_if_eq {x : Int32} {off : Int} {tgt : Nat} (hd : decode M.2.1 pc = .ok (.ifCond .eq off, 3)) (ht : (pc : Int) + off = (tgt : Int)) (kt : x = 0 → Wp M E tgt L st g Q) (kf : ¬ x = 0 → Wp M E (pc + 3) L st g Q) : Wp M E pc L (.int x :: st) g Q :=
  fun p l e R s m args below meth c D ad cA cells slots Qf C hE hQ H locs ls hP hS hl => lv_if_eq C.1 C.2.1 hd ht (fun h => kt h p l e R s m args below meth c D ad cA cells slots Qf C hE hQ H locs ls hP hS hl) (fun h => kf h p l e R s m args below meth c D ad cA cells slots Qf C hE hQ H locs ls hP hS hl)
theorem e_icmp_eq {x y : Int32} {off : Int} {tgt : Nat} (hd : decode M.2.1 pc = .ok (.if_icmp .eq off, 3)) (ht : (pc : Int) + off = (tgt : Int)) (kt : x = y → Wp M E tgt L st g Q) (kf : ¬ x = y → Wp M E (pc + 3) L st g Q) : Wp M E pc L (.int y :: .int x :: st) g Q :=
  fun p l e R s m args below meth c D ad cA cells slots Qf C hE hQ H locs ls hP hS hl => lv_icmp_eq C.1 C.2.1 hd ht (fun h => kt h p l e R s m args below meth c D ad cA cells slots Qf C hE hQ H locs ls hP hS hl) (fun h => kf h p l e R s m args below meth c D ad cA cells slots Qf C hE hQ H locs ls hP hS hl)
theorem e_if_ne {x : Int32} {off : Int} {tgt : Nat} (hd : decode M.2.1 pc = .ok (.ifCond .ne off, 3)) (ht : (pc : Int) + off = (tgt : Int)) (kt : (¬ x = 0) → Wp M E tgt L st g Q) (kf : x = 0 → Wp M E (pc + 3) L st g Q) : Wp M E pc L (.int x :: st) g Q :=
  fun p l e R s m args below meth c D ad cA cells slots Qf C hE hQ H locs ls hP hS hl => lv_if_ne C.1 C.2.1 hd ht (fun h => kt h p l e R s m args below meth c D ad cA cells slots Qf C hE hQ H locs ls hP hS hl) (fun h => kf h p l e R s m args below meth c D ad cA cells slots Qf C hE hQ H locs ls hP hS hl)
theorem e_icmp_ne {x y : Int32} {off : Int} {tgt : Nat} (hd : decode M.2.1 pc = .ok (.if_icmp .ne off, 3)) (ht : (pc : Int) + off = (tgt : Int)) (kt : (¬ x = y) → Wp M E tgt L st g Q) (kf : x = y → Wp M E (pc + 3) L st g Q) : Wp M E pc L (.int y :: .int x :: st) g Q :=
  fun p l e R s m args below meth c D ad cA cells slots Qf C hE hQ H locs ls hP hS hl => lv_icmp_ne C.1 C.2.1 hd ht (fun h => kt h p l e R s m args below meth c D ad cA cells slots Qf C hE hQ H locs ls hP hS hl) (fun h => kf h p l e R s m args below meth c D ad cA cells slots Qf C hE hQ H locs ls hP hS hl)
theorem e_if_lt {x : Int32} {off : Int} {tgt : Nat} (hd : decode M.2.1 pc = .ok (.ifCond .lt off, 3)) (ht : (pc : Int) + off = (tgt : Int)) (kt : x < 0 → Wp M E tgt L st g Q) (kf : ¬ x < 0 → Wp M E (pc + 3) L st g Q) : Wp M E pc L (.int x :: st) g Q :=
  fun p l e R s m args below meth c D ad cA cells slots Qf C hE hQ H locs ls hP hS hl => lv_if_lt C.1 C.2.1 hd ht (fun h => kt h p l e R s m args below meth c D ad cA cells slots Qf C hE hQ H locs ls hP hS hl) (fun h => kf h p l e R s m args below meth c D ad cA cells slots Qf C hE hQ H locs ls hP hS hl)
theorem e_icmp_lt {x y : Int32} {off : Int} {tgt : Nat} (hd : decode M.2.1 pc = .ok (.if_icmp .lt off, 3)) (ht : (pc : Int) + off = (tgt : Int)) (kt : x < y → Wp M E tgt L st g Q) (kf : ¬ x < y → Wp M E (pc + 3) L st g Q) : Wp M E pc L (.int y :: .int x :: st) g Q :=
  fun p l e R s m args below meth c D ad cA cells slots Qf C hE hQ H locs ls hP hS hl => lv_icmp_lt C.1 C.2.1 hd ht (fun h => kt h p l e R s m args below meth c D ad cA cells slots Qf C hE hQ H locs ls hP hS hl) (fun h => kf h p l e R s m args below meth c D ad cA cells slots Qf C hE hQ H locs ls hP hS hl)
theorem e_if_ge {x : Int32} {off : Int} {tgt : Nat} (hd : decode M.2.1 pc = .ok (.ifCond .ge off, 3)) (ht : (pc : Int) + off = (tgt : Int)) (kt : 0 ≤ x → Wp M E tgt L st g Q) (kf : ¬ 0 ≤ x → Wp M E (pc + 3) L st g Q) : Wp M E pc L (.int x :: st) g Q :=
  fun p l e R s m args below meth c D ad cA cells slots Qf C hE hQ H locs ls hP hS hl => lv_if_ge C.1 C.2.1 hd ht (fun h => kt h p l e R s m args below meth c D ad cA cells slots Qf C hE hQ H locs ls hP hS hl) (fun h => kf h p l e R s m args below meth c D ad cA cells slots Qf C hE hQ H locs ls hP hS hl)
theorem e_icmp_ge {x y : Int32} {off : Int} {tgt : Nat} (hd : decode M.2.1 pc = .ok (.if_icmp .ge off, 3)) (ht : (pc : Int) + off = (tgt : Int)) (kt : y ≤ x → Wp M E tgt L st g Q) (kf : ¬ y ≤ x → Wp M E (pc + 3) L st g Q) : Wp M E pc L (.int y :: .int x :: st) g Q :=
  fun p l e R s m args below meth c D ad cA cells slots Qf C hE hQ H locs ls hP hS hl => lv_icmp_ge C.1 C.2.1 hd ht (fun h => kt h p l e R s m args below meth c D ad cA cells slots Qf C hE hQ H locs ls hP hS hl) (fun h => kf h p l e R s m args below meth c D ad cA cells slots Qf C hE hQ H locs ls hP hS hl)
theorem e_if_gt {x : Int32} {off : Int} {tgt : Nat} (hd : decode M.2.1 pc = .ok (.ifCond .gt off, 3)) (ht : (pc : Int) + off = (tgt : Int)) (kt : 0 < x → Wp M E tgt L st g Q) (kf : ¬ 0 < x → Wp M E (pc + 3) L st g Q) : Wp M E pc L (.int x :: st) g Q :=
  fun p l e R s m args below meth c D ad cA cells slots Qf C hE hQ H locs ls hP hS hl => lv_if_gt C.1 C.2.1 hd ht (fun h => kt h p l e R s m args below meth c D ad cA cells slots Qf C hE hQ H locs ls hP hS hl) (fun h => kf h p l e R s m args below meth c D ad cA cells slots Qf C hE hQ H locs ls hP hS hl)
theorem e_icmp_gt {x y : Int32} {off : Int} {tgt : Nat} (hd : decode M.2.1 pc = .ok (.if_icmp .gt off, 3)) (ht : (pc : Int) + off = (tgt : Int)) (kt : y < x → Wp M E tgt L st g Q) (kf : ¬ y < x → Wp M E (pc + 3) L st g Q) : Wp M E pc L (.int y :: .int x :: st) g Q :=
  fun p l e R s m args below meth c D ad cA cells slots Qf C hE hQ H locs ls hP hS hl => lv_icmp_gt C.1 C.2.1 hd ht (fun h => kt h p l e R s m args below meth c D ad cA cells slots Qf C hE hQ H locs ls hP hS hl) (fun h => kf h p l e R s m args below meth c D ad cA cells slots Qf C hE hQ H locs ls hP hS hl)
theorem e_if_le {x : Int32} {off : Int} {tgt : Nat} (hd : decode M.2.1 pc = .ok (.ifCond .le off, 3)) (ht : (pc : Int) + off = (tgt : Int)) (kt : x ≤ 0 → Wp M E tgt L st g Q) (kf : ¬ x ≤ 0 → Wp M E (pc + 3) L st g Q) : Wp M E pc L (.int x :: st) g Q :=
  fun p l e R s m args below meth c D ad cA cells slots Qf C hE hQ H locs ls hP hS hl => lv_if_le C.1 C.2.1 hd ht (fun h => kt h p l e R s m args below meth c D ad cA cells slots Qf C hE hQ H locs ls hP hS hl) (fun h => kf h p l e R s m args below meth c D ad cA cells slots Qf C hE hQ H locs ls hP hS hl)
theorem e_icmp_le {x y : Int32} {off : Int} {tgt : Nat} (hd : decode M.2.1 pc = .ok (.if_icmp .le off, 3)) (ht : (pc : Int) + off = (tgt : Int)) (kt : x ≤ y → Wp M E tgt L st g Q) (kf : ¬ x ≤ y → Wp M E (pc + 3) L st g Q) : Wp M E pc L (.int y :: .int x :: st) g Q :=
  fun p l e R s m args below meth c D ad cA cells slots Qf C hE hQ H locs ls hP hS hl => lv_icmp_le C.1 C.2.1 hd ht (fun h => kt h p l e R s m args below meth c D ad cA cells slots Qf C hE hQ H locs ls hP hS hl) (fun h => kf h p l e R s m args below meth c D ad cA cells slots Qf C hE hQ H locs ls hP hS hl)
theorem e_iret {x : Int32} {ty : FieldType} (hd : decode M.2.1 pc = .ok (.ireturn, 1)) (hr : M.2.2.2.1 = some ty) (hn : narrow ty (.int x) = .int x) (k : Q (some (.int x)) g) : Wp M E pc L [.int x] g Q :=
  fun p l e R s m args below meth c D ad cA cells slots Qf C hE hQ H locs ls hP hS hl => hQ _ _ k H locs pc ls hP hS ⟨hd, ty, hr, hn⟩
theorem e_lret {x : Int64} (hd : decode M.2.1 pc = .ok (.lreturn, 1)) (hr : M.2.2.2.1 = some .long) (k : Q (some (.long x)) g) : Wp M E pc L [.long x] g Q :=
  fun p l e R s m args below meth c D ad cA cells slots Qf C hE hQ H locs ls hP hS hl => hQ _ _ k H locs pc ls hP hS ⟨hd, hr⟩
theorem e_vret (hd : decode M.2.1 pc = .ok (.return_, 1)) (hr : M.2.2.2.1 = none) (k : Q none g) : Wp M E pc L [] g Q :=
  fun p l e R s m args below meth c D ad cA cells slots Qf C hE hQ H locs ls hP hS hl => hQ _ _ k H locs pc ls hP hS ⟨hd, hr⟩
/-- a field's link, and what the tables say of its class -/
def FL (own : String) (idx ci j : Nat) : Prop := ∃ (C : String) (T : u_T) (N : Nat), vwCl[ci]? = some (C, T, N) ∧ j < N ∧ (∀ w ∈ u_ws C T N, w ∈ gtbl) ∧ Cond.fieldLink own idx (T j).1 (T j).2.1 (T j).2.2.1 ∈ gtbl
/-- an int field that may be written -/
def FP (own : String) (idx ci j : Nat) : Prop := ∃ (C : String) (T : u_T) (N : Nat), vwCl[ci]? = some (C, T, N) ∧ j < N ∧ (∀ w ∈ u_ws C T N, w ∈ gtbl) ∧ Cond.fieldLink own idx (T j).1 (T j).2.1 (T j).2.2.1 ∈ gtbl ∧
  (∃ ty0 : Nat → FieldType, ∀ k, k < N → parseFieldDescriptor (T k).2.2.1 = some (ty0 k)) ∧ (∀ a, a < N → ∀ b, b < N → a ≠ b → (T a).2.1 ≠ (T b).2.1) ∧ (T j).2.2.2 = false ∧ parseFieldDescriptor (T j).2.2.1 = some .int
theorem e_getI {idx ci j a : Nat} {fs : List (Option Nat)} (hd : decode M.2.1 pc = .ok (.getfield idx, 3)) (hf : FL M.1.cls idx ci j) (hs : shape[a]? = some (.inr (ci, fs))) (hj : fs[j]? = some none) (k : Wp M E (pc + 3) L (.int (g a j) :: st) g Q) : Wp M E pc L (.ref a :: st) g Q := by
  intro p l e R s m args below meth c D ad cA cells slots Qf C hE hQ H locs ls hP hS hl
  obtain ⟨Cn, T, N, h1, h2, h3, h4⟩ := hf
  refine va_get (D := D) (ci := ci) (v := .int (g a j)) (C := Cn) (T := T) (N := N) C.1 C.2.1 C.2.2.2.2.2.2.1 h3 C.2.2.2.2.2.1 C.2.2.2.2.2.2.2.2.1 hP a (wl_at hs) h1 j h2 (C.2.2.2.2.2.2.1 _ h4) (fun _ h9 => h9) ?_ hd (k p l e R s m args below meth c D ad cA cells slots Qf C hE hQ H locs ls hP hS hl)
  simp [List.getElem?_mapIdx, hj, wfld]
theorem e_getR {idx ci j a r : Nat} {fs : List (Option Nat)} (hd : decode M.2.1 pc = .ok (.getfield idx, 3)) (hf : FL M.1.cls idx ci j) (hs : shape[a]? = some (.inr (ci, fs))) (hj : fs[j]? = some (some r)) (k : Wp M E (pc + 3) L (.ref r :: st) g Q) : Wp M E pc L (.ref a :: st) g Q := by
  intro p l e R s m args below meth c D ad cA cells slots Qf C hE hQ H locs ls hP hS hl
  obtain ⟨Cn, T, N, h1, h2, h3, h4⟩ := hf
  refine va_get (D := D) (ci := ci) (v := .ref (ad r)) (C := Cn) (T := T) (N := N) C.1 C.2.1 C.2.2.2.2.2.2.1 h3 C.2.2.2.2.2.1 C.2.2.2.2.2.2.2.2.1 hP a (wl_at hs) h1 j h2 (C.2.2.2.2.2.2.1 _ h4) (fun _ h9 => h9) ?_ hd (k p l e R s m args below meth c D ad cA cells slots Qf C hE hQ H locs ls hP hS hl)
  simp [List.getElem?_mapIdx, hj, wfld]
theorem e_putI {idx ci j a : Nat} {x : Int32} {fs : List (Option Nat)} (hd : decode M.2.1 pc = .ok (.putfield idx, 3)) (hf : FP M.1.cls idx ci j) (hs : shape[a]? = some (.inr (ci, fs))) (hj : fs[j]? = some none) (k : Wp M E (pc + 3) L st (sgU g a j x) Q) : Wp M E pc L (.int x :: .ref a :: st) g Q := by
  intro p l e R s m args below meth c D ad cA cells slots Qf C hE hQ H locs ls hP hS hl
  obtain ⟨Cn, T, N, h1, h2, h3, h4, ⟨ty0, h5⟩, h6, h7, h8⟩ := hf
  have hjl : j < fs.length := (List.getElem?_eq_some_iff.mp hj).1
  refine va_put (D := D) (ci := ci) (v := .int x) (ty := .int) (C := Cn) (T := T) (N := N) C.1 C.2.1 C.2.2.2.2.2.2.1 h3 ty0 h5 h6 C.2.2.2.2.2.1 C.2.2.2.2.2.2.2.2.1 hP (wl_D C.2.2.2.2.2.2.2.2.2.1) hS a (wl_at hs) h1 j h2 (C.2.2.2.2.2.2.1 _ h4) (fun _ h9 => h9) h7 h8 rfl rfl (by rw [List.length_mapIdx]; exact hjl) hd (fun H locs hP hD hS => ?_)
  have e1 : (wl ad cA g).set a (ad a, .inr (ci, (fs.mapIdx (fun j o => wfld ad g a j o)).set j (.int x))) = wl ad cA (sgU g a j x) := by
    refine wl_set hs ?_ (fun i hi => by simp [sgU, hi])
    simp only [wcell, Sum.inr.injEq, Prod.mk.injEq, true_and]
    apply List.ext_getElem?
    intro i
    rw [List.getElem?_set, List.getElem?_mapIdx, List.getElem?_mapIdx, List.length_mapIdx]
    by_cases hi : j = i
    · subst hi
      rw [hj]
      simp [hjl, wfld, sgU, upd]
    · rw [if_neg hi]
      have : (fun o => wfld ad (sgU g a j x) a i o) = (fun o => wfld ad g a i o) := by
        funext o
        cases o <;> simp [wfld, sgU, upd, Ne.symm hi]
      rw [this]
  exact k p l e R s m args below meth c D ad cA cells slots Qf C hE hQ H locs ls (by rw [← e1]; exact hP) hS hl
theorem e_iald {a n : Nat} {i : Int32} (hd : decode M.2.1 pc = .ok (.iaload, 1)) (hs : shape[a]? = some (.inl n)) (hi : vp_in i n) (k : Wp M E (pc + 1) L (.int (g a i.toNatClampNeg) :: st) g Q) : Wp M E pc L (.int i :: .ref a :: st) g Q :=
  fun p l e R s m args below meth c D ad cA cells slots Qf C hE hQ H locs ls hP hS hl => va_iald C.1 C.2.1 C.2.2.2.2.2.2.2.2.1 hP a 0 (wl_at hs) rfl hi hd (k p l e R s m args below meth c D ad cA cells slots Qf C hE hQ H locs ls hP hS hl)
theorem e_iast {a n : Nat} {i x : Int32} (hd : decode M.2.1 pc = .ok (.iastore, 1)) (hs : shape[a]? = some (.inl n)) (hi : vp_in i n) (k : Wp M E (pc + 1) L st (sgU g a i.toNatClampNeg x) Q) : Wp M E pc L (.int x :: .int i :: .ref a :: st) g Q := by
  intro p l e R s m args below meth c D ad cA cells slots Qf C hE hQ H locs ls hP hS hl
  refine va_iast C.1 C.2.1 C.2.2.2.2.2.2.2.2.1 hP (wl_D C.2.2.2.2.2.2.2.2.2.1) hS a 0 (wl_at hs) rfl hi hd (fun H locs hP hD hS => ?_)
  have e1 : (wl ad cA g).set a (ad a, .inl (cA, n, .inl (upd (g a) i.toNatClampNeg x))) = wl ad cA (sgU g a i.toNatClampNeg x) :=
    wl_set hs (by simp [wcell, sgU]) (fun i hi => by simp [sgU, hi])
  exact k p l e R s m args below meth c D ad cA cells slots Qf C hE hQ H locs ls (by rw [← e1]; exact hP) hS hl
theorem e_alen {a n : Nat} (hd : decode M.2.1 pc = .ok (.arraylength, 1)) (hs : shape[a]? = some (.inl n)) (k : Wp M E (pc + 1) L (.int (Int32.ofNat n) :: st) g Q) : Wp M E pc L (.ref a :: st) g Q :=
  fun p l e R s m args below meth c D ad cA cells slots Qf C hE hQ H locs ls hP hS hl => va_alen C.1 C.2.1 C.2.2.2.2.2.2.2.2.1 hP a 0 (wl_at hs) rfl rfl hd (k p l e R s m args below meth c D ad cA cells slots Qf C hE hQ H locs ls hP hS hl)
theorem e_tbl {dflt lo hi : Int} {offs : Array Int} {len : Nat} {x : Int32} (hd : decode M.2.1 pc = .ok (.tableswitch dflt lo hi offs, len)) (tg : Int → Nat) (td : Nat) (htd : (pc : Int) + dflt = (td : Int)) (htg : ∀ i, i < offs.size → (pc : Int) + offs.getD i 0 = (tg (lo + i) : Int)) (hsz : lo + offs.size = hi + 1)
    (kd : (x.toInt < lo ∨ hi < x.toInt) → Wp M E td L st g Q) (kt : lo ≤ x.toInt → x.toInt ≤ hi → Wp M E (tg x.toInt) L st g Q) : Wp M E pc L (.int x :: st) g Q := by
  intro p l e R s m args below meth c D ad cA cells slots Qf C hE hQ H locs ls hP hS hl
  by_cases h : x.toInt < lo ∨ hi < x.toInt
  · exact lv_tableOut C.1 C.2.1 hd h htd (kd h p l e R s m args below meth c D ad cA cells slots Qf C hE hQ H locs ls hP hS hl)
  · have h1 : lo ≤ x.toInt := by omega
    have h2 : x.toInt ≤ hi := by omega
    have hlt : (x.toInt - lo).toNat < offs.size := by omega
    have e1 := htg (x.toInt - lo).toNat hlt
    have e2 : lo + ((x.toInt - lo).toNat : Int) = x.toInt := by omega
    rw [e2] at e1
    exact lv_tableIn C.1 C.2.1 hd (by omega) (by omega) (off := offs.getD (x.toInt - lo).toNat 0) (by simp [hlt]) e1 (kt h1 h2 p l e R s m args below meth c D ad cA cells slots Qf C hE hQ H locs ls hP hS hl)
/-- behind a call -/
theorem run_k {p : Program} {l : Launch} {e : Env} {R : Room} {s : State} {m : MethodId} {args : Array Value} {below : List Frame} {meth : Method} {c : Code} {H : Heap} {locs : List Loc} {cells slots : Nat} {Qf : State → Prop} {ls : Array Slot} {st0 rest : List Value} {D : va_G} {ad : Nat → Nat} {cA : ClassId} {Q1 : Option Value → Sg → Prop}
    (hr : va_Run p l e R s m args below meth c H locs cells slots 0 0 (F0 m pc ls st0) rest (fun st oc t => (∃ v g', oc = .returned (v.map (rv ad)) ∧ Q1 v g' ∧ va_P D vwCl (wl ad cA g') t.heap) ∧ va_F (wA ad) st t) (wA ad)) (hS : va_S (wA ad) s.heap H locs)
    (kk : ∀ v g' H1 locs1, Q1 v g' → va_P D vwCl (wl ad cA g') H1 → va_S (wA ad) s.heap H1 locs1 → W p l e R s m args below meth c H1 locs1 cells slots Qf (F0 m (pc + 3) ls ((v.map (rv ad)).toList ++ rest))) : W p l e R s m args below meth c H locs cells slots Qf (F0 m pc ls st0) := by
  intro T hT X
  obtain ⟨v, st₀, t, T', L, h0, X', hL, e1, e2, ⟨⟨v', g', hv, hq, hp⟩, hz, hk⟩, st⟩ := hr T hT X
  cases hv
  rw [h0] at hz hk
  obtain ⟨t2, a1, b1⟩ := kk v' g' T'.heap (locs ++ L) hq (by rw [e1]; exact hp)
    ⟨Nat.le_trans hS.1 (by rw [e1]; exact hz), fun q h1 h2 => by rw [e1, hk q (Nat.lt_of_lt_of_le h1 hS.1) h2]; exact hS.2.1 q h1 h2, fun q hq => by
      rcases List.mem_append.mp hq with h | h
      · exact hS.2.2 q h
      · exact hL q h⟩ T' rfl X'
  exact ⟨t2, st t2 a1, b1⟩
end Ev
