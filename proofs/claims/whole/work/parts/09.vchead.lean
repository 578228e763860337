/-! what the written segments stand on -/
section Ev4
variable {M M' : MI} {E : State → (Nat → Nat) → Prop} {pc : Nat} {L L' : Ls} {st rest : List Value} {g : Sg} {Q : Option Value → Sg → Prop}
theorem q_iconst {n : Int} {v : Int32} (hd : decode M.2.1 pc = .ok (.iconst n, 1)) (hv : Int32.ofInt n = v) (k : Wp M E (pc + 1) L (.int v :: st) g Q) : Wp M E pc L st g Q := by subst hv; exact e_iconst hd k
theorem q_bipush {n : Int} {v : Int32} (hd : decode M.2.1 pc = .ok (.bipush n, 2)) (hv : (Int8.ofInt n).toInt32 = v) (k : Wp M E (pc + 2) L (.int v :: st) g Q) : Wp M E pc L st g Q := by subst hv; exact e_bipush hd k
theorem q_sipush {n : Int} {v : Int32} (hd : decode M.2.1 pc = .ok (.sipush n, 3)) (hv : (Int16.ofInt n).toInt32 = v) (k : Wp M E (pc + 3) L (.int v :: st) g Q) : Wp M E pc L st g Q := by subst hv; exact e_sipush hd k
theorem q_lconst {n : Fin 2} {v : Int64} (hd : decode M.2.1 pc = .ok (.lconst n, 1)) (hv : Int64.ofNat (n : Nat) = v) (k : Wp M E (pc + 1) L (.long v :: st) g Q) : Wp M E pc L st g Q := by subst hv; exact e_lconst hd k
theorem q_istore_n {j : Fin 4} {x : Int32} (hd : decode M.2.1 pc = .ok (.istore_n j, 1)) (hn : (j : Nat) < M.2.2.1) (hL : st1 L j (.int x) = L') (k : Wp M E (pc + 1) L' st g Q) : Wp M E pc L (.int x :: st) g Q := by subst hL; exact e_istore_n hd hn k
theorem q_istore {j : Nat} {x : Int32} (hd : decode M.2.1 pc = .ok (.istore j, 2)) (hn : j < M.2.2.1) (hL : st1 L j (.int x) = L') (k : Wp M E (pc + 2) L' st g Q) : Wp M E pc L (.int x :: st) g Q := by subst hL; exact e_istore hd hn k
theorem q_lstore_n {j : Fin 4} {x : Int64} (hd : decode M.2.1 pc = .ok (.lstore_n j, 1)) (hn : (j : Nat) + 1 < M.2.2.1) (hL : st2 L j (.long x) = L') (k : Wp M E (pc + 1) L' st g Q) : Wp M E pc L (.long x :: st) g Q := by subst hL; exact e_lstore_n hd hn k
theorem q_lstore {j : Nat} {x : Int64} (hd : decode M.2.1 pc = .ok (.lstore j, 2)) (hn : j + 1 < M.2.2.1) (hL : st2 L j (.long x) = L') (k : Wp M E (pc + 2) L' st g Q) : Wp M E pc L (.long x :: st) g Q := by subst hL; exact e_lstore hd hn k
theorem q_astore_n {j : Fin 4} {x : Nat} (hd : decode M.2.1 pc = .ok (.astore_n j, 1)) (hn : (j : Nat) < M.2.2.1) (hL : st1 L j (.ref x) = L') (k : Wp M E (pc + 1) L' st g Q) : Wp M E pc L (.ref x :: st) g Q := by subst hL; exact e_astore_n hd hn k
theorem q_iinc {j : Nat} {n : Int} {x d : Int32} (hd : decode M.2.1 pc = .ok (.iinc j n, 3)) (hx : L[j]? = some (some (.int x))) (hn : j < M.2.2.1) (hv : Int32.ofInt n = d) (hL : st1 L j (.int (x + d)) = L') (k : Wp M E (pc + 3) L' st g Q) : Wp M E pc L st g Q := by subst hL; subst hv; exact e_iinc hd hx hn k
theorem Wp.mask (bs : List Bool) (h : Wp M E pc (L.zipWith (fun o b => if b = true then o else none) bs) st g Q) : Wp M E pc L st g Q := by
  intro p l e R s m args below meth c D ad cA cells slots Qf C hE hQ H locs ls hP hS hl
  refine h p l e R s m args below meth c D ad cA cells slots Qf C hE hQ H locs ls hP hS ⟨hl.1, hl.2.1, fun i v hi => hl.2.2 i v ?_⟩
  rw [List.getElem?_zipWith] at hi
  cases ho : L[i]? with
  | none => rw [ho] at hi; simp at hi
  | some o =>
    rw [ho] at hi
    cases hb : bs[i]? with
    | none => rw [hb] at hi; simp at hi
    | some b =>
      rw [hb] at hi
      simp at hi
      rw [hi.2]
theorem tb_eq {x k : Int32} {n : Int} (h : x.toInt = n) (hk : k.toInt = n) : x = k := Int32.toInt_inj.mp (h.trans hk.symm)
theorem nb1 {x : Int32} (h : x &&& 1 = x) : narrow .boolean (.int x) = .int x := by simp [narrow, h]
theorem q_tbl {dflt lo hi : Int} {offs : Array Int} {len : Nat} {x : Int32} (ts : List Nat) (td : Nat) (hd : decode M.2.1 pc = .ok (.tableswitch dflt lo hi offs, len)) (htd : (pc : Int) + dflt = (td : Int)) (hts : offs.toList.map (fun o => (pc : Int) + o) = ts.map (fun t : Nat => (t : Int))) (hsz : lo + ts.length = hi + 1)
    (kd : (x.toInt < lo ∨ hi < x.toInt) → Wp M E td L st g Q) (kt : ∀ (i t : Nat), ts[i]? = some t → x.toInt = lo + i → Wp M E t L st g Q) : Wp M E pc L (.int x :: st) g Q := by
  have hlen : offs.size = ts.length := by
    have := congrArg List.length hts
    simpa using this
  refine e_tbl hd (fun n => ts.getD (n - lo).toNat 0) td htd (fun i hi => ?_) (by omega) kd (fun h1 h2 => ?_)
  · have h3 := congrArg (fun l => l[i]?) hts
    simp only [List.getElem?_map, Array.getElem?_toList] at h3
    have h4 : lo + (i : Int) - lo = i := by omega
    rw [h4]
    simp only [Int.toNat_natCast]
    rw [Array.getElem?_eq_getElem hi, List.getElem?_eq_getElem (by omega)] at h3
    simp at h3
    simp [hi, show i < ts.length by omega, h3]
  · have hlt : (x.toInt - lo).toNat < ts.length := by omega
    refine kt (x.toInt - lo).toNat _ ?_ (by omega)
    simp [hlt]
end Ev4
def MKmax (own : String) (idx : Nat) : Prop := Cond.methodLink own idx Lib.Math.max.name ∈ gtbl ∧ Cond.static Lib.Math.max.name ∈ gtbl ∧ Cond.initialized "java/lang/Math" ∈ gtbl ∧ Cond.code Lib.Math.max.name Lib.Math.max.code 2 (some .int) ∈ gtbl
theorem e_mmax {M : MI} {E : State → (Nat → Nat) → Prop} {pc idx : Nat} {L : Ls} {st : List Value} {g : Sg} {Q : Option Value → Sg → Prop} {x y : Int32} (hd : decode M.2.1 pc = .ok (.invokestatic idx, 3)) (hk : MKmax M.1.cls idx) (hf : 1 ≤ M.2.2.2.2.1) (hr : (st.map fun v => v.category).sum + 13 ≤ M.2.2.2.2.2) (k : Wp M E (pc + 3) L (.int (if x < y then y else x) :: st) g Q) : Wp M E pc L (.int y :: .int x :: st) g Q := by
  intro p l e R s m args below meth c D ad cA cells slots Qf C hE hQ H locs ls hP hS hl
  obtain ⟨hx, hb, hml, hrt, hlk, hown, hts, hN, hK, hI, hF, hLo, hce, hsl⟩ := id C
  exact va_mmax hx hb (hml.trans hl.1.symm) hown (hts _ hk.1) (hts _ hk.2.1) (hts _ hk.2.2.1) (hts _ hk.2.2.2) (Nat.le_trans hf hF) (Nat.le_trans (by rw [cat_sum]; exact hr) hLo) hce hsl hd (k p l e R s m args below meth c D ad cA cells slots Qf C hE hQ H locs ls hP hS hl)
def MKmin (own : String) (idx : Nat) : Prop := Cond.methodLink own idx Lib.Math.min.name ∈ gtbl ∧ Cond.static Lib.Math.min.name ∈ gtbl ∧ Cond.initialized "java/lang/Math" ∈ gtbl ∧ Cond.code Lib.Math.min.name Lib.Math.min.code 2 (some .int) ∈ gtbl
theorem e_mmin {M : MI} {E : State → (Nat → Nat) → Prop} {pc idx : Nat} {L : Ls} {st : List Value} {g : Sg} {Q : Option Value → Sg → Prop} {x y : Int32} (hd : decode M.2.1 pc = .ok (.invokestatic idx, 3)) (hk : MKmin M.1.cls idx) (hf : 1 ≤ M.2.2.2.2.1) (hr : (st.map fun v => v.category).sum + 13 ≤ M.2.2.2.2.2) (k : Wp M E (pc + 3) L (.int (if y < x then y else x) :: st) g Q) : Wp M E pc L (.int y :: .int x :: st) g Q := by
  intro p l e R s m args below meth c D ad cA cells slots Qf C hE hQ H locs ls hP hS hl
  obtain ⟨hx, hb, hml, hrt, hlk, hown, hts, hN, hK, hI, hF, hLo, hce, hsl⟩ := id C
  exact va_mmin hx hb (hml.trans hl.1.symm) hown (hts _ hk.1) (hts _ hk.2.1) (hts _ hk.2.2.1) (hts _ hk.2.2.2) (Nat.le_trans hf hF) (Nat.le_trans (by rw [cat_sum]; exact hr) hLo) hce hsl hd (k p l e R s m args below meth c D ad cA cells slots Qf C hE hQ H locs ls hP hS hl)
def MKabs (own : String) (idx : Nat) : Prop := Cond.methodLink own idx Lib.Math.abs.name ∈ gtbl ∧ Cond.static Lib.Math.abs.name ∈ gtbl ∧ Cond.initialized "java/lang/Math" ∈ gtbl ∧ Cond.code Lib.Math.abs.name Lib.Math.abs.code 1 (some .int) ∈ gtbl
theorem e_mabs {M : MI} {E : State → (Nat → Nat) → Prop} {pc idx : Nat} {L : Ls} {st : List Value} {g : Sg} {Q : Option Value → Sg → Prop} {x : Int32} (hd : decode M.2.1 pc = .ok (.invokestatic idx, 3)) (hk : MKabs M.1.cls idx) (hf : 1 ≤ M.2.2.2.2.1) (hr : (st.map fun v => v.category).sum + 13 ≤ M.2.2.2.2.2) (k : Wp M E (pc + 3) L (.int (if 0 ≤ x then x else 0 - x) :: st) g Q) : Wp M E pc L (.int x :: st) g Q := by
  intro p l e R s m args below meth c D ad cA cells slots Qf C hE hQ H locs ls hP hS hl
  obtain ⟨hx, hb, hml, hrt, hlk, hown, hts, hN, hK, hI, hF, hLo, hce, hsl⟩ := id C
  exact va_mabs hx hb (hml.trans hl.1.symm) hown (hts _ hk.1) (hts _ hk.2.1) (hts _ hk.2.2.1) (hts _ hk.2.2.2) (Nat.le_trans hf hF) (Nat.le_trans (by rw [cat_sum]; exact hr) hLo) hce hsl hd (k p l e R s m args below meth c D ad cA cells slots Qf C hE hQ H locs ls hP hS hl)
theorem pl_X0 : Jvm.plainName RX0 = true := by decide +kernel
theorem pl_X1 : Jvm.plainName RX1 = true := by decide +kernel
theorem pl_X2 : Jvm.plainName RX2 = true := by decide +kernel
theorem pl_X3 : Jvm.plainName RX3 = true := by decide +kernel
theorem pl_X4 : Jvm.plainName RX4 = true := by decide +kernel
theorem pl_X5 : Jvm.plainName RX5 = true := by decide +kernel
theorem pl_X6 : Jvm.plainName RX6 = true := by decide +kernel
theorem pl_X7 : Jvm.plainName RX7 = true := by decide +kernel
theorem pl_X8 : Jvm.plainName RX8 = true := by decide +kernel
theorem pl_X9 : Jvm.plainName RX9 = true := by decide +kernel
theorem pl_J6 : Jvm.plainName RJ6 = true := by decide +kernel
theorem pl_J7 : Jvm.plainName RJ7 = true := by decide +kernel
theorem kcopy : Cond.methodLink RX6 43 arraycopyName ∈ gtbl ∧ Cond.native arraycopyName ∈ gtbl ∧ Cond.static arraycopyName ∈ gtbl ∧ Cond.initialized "java/lang/System" ∈ gtbl := ⟨gm 883 (by decide +kernel), gm 885 (by decide +kernel), gm 884 (by decide +kernel), gm 87 (by decide +kernel)⟩
theorem mk_RX8_245 : MKabs RX8 245 := ⟨gm 758 (by decide +kernel), gm 759 (by decide +kernel), gm 86 (by decide +kernel), gm 760 (by decide +kernel)⟩
theorem mk_RX8_317 : MKmin RX8 317 := ⟨gm 890 (by decide +kernel), gm 633 (by decide +kernel), gm 86 (by decide +kernel), gm 634 (by decide +kernel)⟩
theorem mk_RX4_51 : MKmax RX4 51 := ⟨gm 471 (by decide +kernel), gm 472 (by decide +kernel), gm 86 (by decide +kernel), gm 473 (by decide +kernel)⟩
theorem mk_RX7_91 : MKmin RX7 91 := ⟨gm 632 (by decide +kernel), gm 633 (by decide +kernel), gm 86 (by decide +kernel), gm 634 (by decide +kernel)⟩
/-! Arrays.fill -/
abbrev Ck_fill (a : Nat) (x : Int32) (g : Sg) (Q : Sg → Prop) : Prop := Cv Mk_fill [.ref a, .int x] g Q
def sgF (g : Sg) (a n : Nat) (x : Int32) : Sg := sgC g a (fun i => if i < n then x else g a i)
theorem sgF_0 (g : Sg) (a : Nat) (x : Int32) : sgF g a 0 x = g := by
  funext k j
  by_cases h : k = a
  · subst h; simp [sgF, sgC]
  · simp [sgF, sgC, h]
theorem sgF_s (g : Sg) (a n : Nat) (x : Int32) : sgU (sgF g a n x) a n x = sgF g a (n + 1) x := by
  funext k j
  by_cases h : k = a
  · subst h
    by_cases h2 : j = n
    · subst h2; simp [sgU, sgF, sgC, upd]
    · simp only [sgU, sgF, sgC, upd, if_true, h2, if_false]
      by_cases h3 : j < n
      · rw [if_pos h3, if_pos (by omega)]
      · rw [if_neg h3, if_neg (by omega)]
  · simp [sgU, sgF, sgC, h]
theorem Sk_fill {a n : Nat} {x : Int32} {g : Sg} {Q : Sg → Prop} (hs : shape[a]? = some (.inl n)) (hn : n < 2 ^ 31) (h : Q (sgF g a n x)) : Ck_fill a x g Q := by
  have loop : ∀ (d k : Nat), k + d = n → Hv Mk_fill 5 [some (.ref a), some (.int x), some (.int (nI k)), some (.int (nI n))] [] (sgF g a k x) Q := by
    intro d
    induction d with
    | zero =>
      intro k hk
      have : k = n := by omega
      subst this
      refine e_iload_n (dx D_k_fill 5 rfl) rfl ?_
      refine e_iload_n (dx D_k_fill 6 rfl) rfl ?_
      refine e_icmp_ge (tgt := 20) (dx D_k_fill 7 rfl) (by decide) (fun c => ?_) (fun c => ?_)
      · exact e_vret (dx D_k_fill 14 rfl) rfl ⟨rfl, h⟩
      · exact absurd (nI_le (Nat.le_refl _) hn) c
    | succ d ih =>
      intro k hk
      refine e_iload_n (dx D_k_fill 5 rfl) rfl ?_
      refine e_iload_n (dx D_k_fill 6 rfl) rfl ?_
      refine e_icmp_ge (tgt := 20) (dx D_k_fill 7 rfl) (by decide) (fun c => ?_) (fun c => ?_)
      · exact absurd c (nI_ge (by omega) hn)
      · refine e_aload_n (dx D_k_fill 8 rfl) rfl ?_
        refine e_iload_n (dx D_k_fill 9 rfl) rfl ?_
        refine e_iload_n (dx D_k_fill 10 rfl) rfl ?_
        refine e_iast (dx D_k_fill 11 rfl) hs (vp_in_nI (by omega) hn) ?_
        rw [nI_clamp (by omega), sgF_s]
        refine q_iinc (d := 1) (L' := [some (.ref a), some (.int x), some (.int (nI k + 1)), some (.int (nI n))]) (dx D_k_fill 12 rfl) rfl (by decide) (by decide) rfl ?_
        rw [nI_1]
        refine e_goto (tgt := 5) (dx D_k_fill 13 rfl) (by decide) ?_
        exact ih (k + 1) (by omega)
  refine Cl.of 2 pl_J7 rfl ?_
  refine q_iconst (v := 0) (dx D_k_fill 0 rfl) (by decide) ?_
  refine q_istore_n (L' := [some (.ref a), some (.int x), some (.int 0), none]) (dx D_k_fill 1 rfl) (by decide) rfl ?_
  refine e_aload_n (dx D_k_fill 2 rfl) rfl ?_
  refine e_alen (dx D_k_fill 3 rfl) hs ?_
  refine q_istore_n (L' := [some (.ref a), some (.int x), some (.int 0), some (.int (nI n))]) (dx D_k_fill 4 rfl) (by decide) rfl ?_
  have := loop n 0 (by omega)
  rw [sgF_0] at this
  exact this
