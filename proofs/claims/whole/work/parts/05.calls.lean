/-! calls -/
theorem gtbl_good : ∀ w ∈ gtbl, (w.onTables && w.keeps) = true ∨ ∃ ty, w = .arrayClass ty := fun w h => good_of_word (List.mem_filter.mp h).2
theorem gtbl_in {y : MethodName} {cc : ByteArray} {n : Nat} {ret : Option FieldType} (h : Cond.code y cc n ret ∈ gtbl) : GoodIn gtbl (Cond.code y cc n ret :: gtbl) := fun w hw => by
  rcases List.mem_cons.mp hw with rfl | h2
  · exact ⟨h, gtbl_good _ h⟩
  · exact ⟨h2, gtbl_good _ h2⟩
def CK (M M' : MI) (n : Nat) : Prop := Cond.initialized M'.1.cls ∈ gtbl ∧ Cond.code M'.1 M'.2.1 M'.2.2.1 M'.2.2.2.1 ∈ gtbl ∧ (M'.1.cls ≠ "java/lang/invoke/MethodHandle" ∧ M'.1.cls ≠ "java/lang/invoke/VarHandle" ∧ (parseMethodDescriptor M'.1.desc).map (fun d => d.parameters.length) = some n) ∧ M'.2.2.2.2.1 + 1 ≤ M.2.2.2.2.1 ∧ 8 + (M'.2.2.1 + 11) + M'.2.2.2.2.2 ≤ M.2.2.2.2.2
def SL (M M' : MI) (idx n : Nat) : Prop := Cond.methodLink M.1.cls idx M'.1 ∈ gtbl ∧ Cond.static M'.1 ∈ gtbl ∧ CK M M' n
def SN (M M' : MI) (idx n : Nat) : Prop := (∃ host, Cond.methodLinkNest M.1.cls idx M'.1 host ∈ lw_tbl) ∧ Cond.static M'.1 ∈ gtbl ∧ CK M M' n
def VL (M M' : MI) (idx n ci : Nat) : Prop := Cond.methodLink M.1.cls idx M'.1 ∈ gtbl ∧ Cond.instanceMethod M'.1 ∈ gtbl ∧ Cond.selects M'.1.cls M'.1 M'.1 ∈ gtbl ∧ (∃ T N, vwCl[ci]? = some (M'.1.cls, T, N)) ∧ CK M M' n
theorem nst_moved {s U : State} (h : nst s) (hW : s.WarmedH U.vm) : nst U := fun own i y host hm => va_Nw.warmM hW (h own i y host hm)
theorem cl_blind {D : va_G} {ad : Nat → Nat} {cA : ClassId} {g : Sg} {as : List Value} : FrameBlind (fun v U => v = (as.map (rv ad)).toArray ∧ va_P D vwCl (wl ad cA g) U.heap ∧ va_K D vwCl [(cA, .int)] U ∧ nst U) := by
  intro a U gg mk q
  obtain ⟨q0, q1, q2, q3⟩ := q
  exact ⟨q0, q1, va_K.moved (u := U) (U := U.calling gg mk a) (Vm.Alike.refl U.vm) q2, fun own i y host hm => va_Nw.same rfl (show U.vm = (U.calling gg mk a).vm from rfl) (q3 own i y host hm)⟩
theorem cat_sum (ad : Nat → Nat) (rest : List Value) : ((rest.map (rv ad)).map fun v => v.category).sum = (rest.map fun v => v.category).sum := by
  rw [List.map_map]
  congr 1
  apply List.map_congr_left
  intro v _
  exact rv_cat ad v
section Ev2
variable {M M' : MI} {E : State → (Nat → Nat) → Prop} {pc : Nat} {L : Ls} {st rest : List Value} {g : Sg} {Q Q1 : Option Value → Sg → Prop} {idx n : Nat}
theorem e_callS (as : List Value) (hd : decode M.2.1 pc = .ok (.invokestatic idx, 3)) (hk : SL M M' idx n) (hn : as.length = n) (hst : st = as.reverse ++ rest) (hr : (rest.map fun v => v.category).sum ≤ 8) (hC : Cl M' as g Q1) (k : ∀ v g', Q1 v g' → Wp M E (pc + 3) L (v.toList ++ rest) g' Q) : Wp M E pc L st g Q := by
  intro p l e R s m args below meth c D ad cA cells slots Qf C hE hQ H locs ls hP hS hl
  obtain ⟨hx, hb, hml, hrt, hlk, hown, hts, hN, hK, hI, hF, hLo, hce, hsl⟩ := id C
  obtain ⟨k1, k2, k3, k4, k5, k6, k7⟩ := hk
  subst hst
  have hstk : (as.reverse ++ rest).map (rv ad) = (as.map (rv ad)).reverse ++ rest.map (rv ad) := by rw [List.map_append, List.map_reverse]
  rw [hstk]
  refine run_k (Q1 := Q1) (rest := rest.map (rv ad)) (va_runS (As := as.map (rv ad)) (Ts := gtbl) ⟨hx, hb, hml, hown, hts⟩ (hC l D ad cA hI) ⟨callB_of n hts (gtbl_in k4) rfl rfl rfl (hts _ k3) (hts _ k1) k5 ⟨Nat.le_trans k6 hF, Nat.le_trans k7 hLo⟩, hts _ k2⟩
    ⟨cl_blind, fun U hU hW => ⟨rfl, by rw [hU]; exact hP, va_K.moved hW.alike hK, nst_moved hN hW⟩⟩ rfl (by rw [List.length_map]; exact hn) hl.1 rfl (lv_room (by rw [cat_sum]; exact hr)) hd ⟨hce, hsl⟩) hS (fun v g' H1 locs1 hq hP1 hS1 => ?_)
  have := k v g' hq p l e R s m args below meth c D ad cA cells slots Qf C hE hQ H1 locs1 ls hP1 hS1 hl
  rw [List.map_append, ← Option.toList_map] at this
  exact this
theorem e_callSN (as : List Value) (hd : decode M.2.1 pc = .ok (.invokestatic idx, 3)) (hk : SN M M' idx n) (hn : as.length = n) (hst : st = as.reverse ++ rest) (hr : (rest.map fun v => v.category).sum ≤ 8) (hC : Cl M' as g Q1) (k : ∀ v g', Q1 v g' → Wp M E (pc + 3) L (v.toList ++ rest) g' Q) : Wp M E pc L st g Q := by
  intro p l e R s m args below meth c D ad cA cells slots Qf C hE hQ H locs ls hP hS hl
  obtain ⟨hx, hb, hml, hrt, hlk, hown, hts, hN, hK, hI, hF, hLo, hce, hsl⟩ := id C
  obtain ⟨⟨host, k1⟩, k2, k3, k4, k5, k6, k7⟩ := hk
  subst hst
  have hstk : (as.reverse ++ rest).map (rv ad) = (as.map (rv ad)).reverse ++ rest.map (rv ad) := by rw [List.map_append, List.map_reverse]
  rw [hstk]
  refine run_k (Q1 := Q1) (rest := rest.map (rv ad)) (va_runSN (As := as.map (rv ad)) (Ts := gtbl) ⟨hx, hb, hml, hown, hts⟩ (hC l D ad cA hI) ⟨va_cnB n hts (gtbl_in k4) rfl rfl rfl (hN _ _ _ _ k1) (hts _ k3) k5 ⟨Nat.le_trans k6 hF, Nat.le_trans k7 hLo⟩, hts _ k2, trivial⟩
    ⟨cl_blind, fun U hU hW => ⟨rfl, by rw [hU]; exact hP, va_K.moved hW.alike hK, nst_moved hN hW⟩⟩ rfl (by rw [List.length_map]; exact hn) hl.1 rfl (lv_room (by rw [cat_sum]; exact hr)) hd ⟨hce, hsl⟩) hS (fun v g' H1 locs1 hq hP1 hS1 => ?_)
  have := k v g' hq p l e R s m args below meth c D ad cA cells slots Qf C hE hQ H1 locs1 ls hP1 hS1 hl
  rw [List.map_append, ← Option.toList_map] at this
  exact this
theorem e_callV {a ci : Nat} {fs : List (Option Nat)} (as : List Value) (hd : decode M.2.1 pc = .ok (.invokevirtual idx, 3)) (hk : VL M M' idx n ci) (hs : shape[a]? = some (.inr (ci, fs))) (hn : as.length = n) (hst : st = as.reverse ++ .ref a :: rest) (hr : (rest.map fun v => v.category).sum ≤ 8) (hC : Cl M' (.ref a :: as) g Q1) (k : ∀ v g', Q1 v g' → Wp M E (pc + 3) L (v.toList ++ rest) g' Q) : Wp M E pc L st g Q := by
  intro p l e R s m args below meth c D ad cA cells slots Qf C hE hQ H locs ls hP hS hl
  obtain ⟨hx, hb, hml, hrt, hlk, hown, hts, hN, hK, hI, hF, hLo, hce, hsl⟩ := id C
  obtain ⟨k1, k2, k2s, ⟨T, N, k8⟩, k3, k4, k5, k6, k7⟩ := hk
  subst hst
  have hstk : (as.reverse ++ .ref a :: rest).map (rv ad) = (as.map (rv ad)).reverse ++ .ref (ad a) :: rest.map (rv ad) := by rw [List.map_append, List.map_reverse]; rfl
  rw [hstk]
  refine run_k (Q1 := Q1) (rest := rest.map (rv ad)) (va_runV (C := M'.1.cls) (As := as.map (rv ad)) (Ts := gtbl) ⟨hx, hb, hml, hown, hts⟩ (hC l D ad cA hI) ⟨callB_of n hts (gtbl_in k4) rfl rfl rfl (hts _ k3) (hts _ k1) k5 ⟨Nat.le_trans k6 hF, Nat.le_trans k7 hLo⟩, hts _ k2, hts _ k2s⟩
    ⟨cl_blind, va_recv hK hP k8 (wl_at hs), fun U hU hW => ⟨rfl, by rw [hU]; exact hP, va_K.moved hW.alike hK, nst_moved hN hW⟩⟩ rfl (by rw [List.length_map]; exact hn) hl.1 rfl (lv_room (by rw [cat_sum]; exact hr)) hd ⟨hce, hsl⟩) hS (fun v g' H1 locs1 hq hP1 hS1 => ?_)
  have := k v g' hq p l e R s m args below meth c D ad cA cells slots Qf C hE hQ H1 locs1 ls hP1 hS1 hl
  rw [List.map_append, ← Option.toList_map] at this
  exact this
end Ev2
/-! calls by what they answer -/
def Ci (M : MI) (as : List Value) (g : Sg) (Q : Int32 → Sg → Prop) : Prop := Cl M as g (fun v g' => ∃ x, v = some (.int x) ∧ Q x g')
def Cj (M : MI) (as : List Value) (g : Sg) (Q : Int64 → Sg → Prop) : Prop := Cl M as g (fun v g' => ∃ x, v = some (.long x) ∧ Q x g')
def Cv (M : MI) (as : List Value) (g : Sg) (Q : Sg → Prop) : Prop := Cl M as g (fun v g' => v = none ∧ Q g')
/-- a point in a method by what the method answers -/
def Hi (M : MI) (pc : Nat) (L : Ls) (st : List Value) (g : Sg) (Q : Int32 → Sg → Prop) : Prop := Wp M (fun _ _ => True) pc L st g (fun v g' => ∃ x, v = some (.int x) ∧ Q x g')
def Hj (M : MI) (pc : Nat) (L : Ls) (st : List Value) (g : Sg) (Q : Int64 → Sg → Prop) : Prop := Wp M (fun _ _ => True) pc L st g (fun v g' => ∃ x, v = some (.long x) ∧ Q x g')
def Hv (M : MI) (pc : Nat) (L : Ls) (st : List Value) (g : Sg) (Q : Sg → Prop) : Prop := Wp M (fun _ _ => True) pc L st g (fun v g' => v = none ∧ Q g')
section Ev3
variable {M M' : MI} {E : State → (Nat → Nat) → Prop} {pc : Nat} {L : Ls} {st rest : List Value} {g : Sg} {Q : Option Value → Sg → Prop} {idx n : Nat}
theorem e_callSi {Q1 : Int32 → Sg → Prop} (as : List Value) (hd : decode M.2.1 pc = .ok (.invokestatic idx, 3)) (hk : SL M M' idx n) (hn : as.length = n) (hst : st = as.reverse ++ rest) (hr : (rest.map fun v => v.category).sum ≤ 8) (hC : Ci M' as g Q1) (k : ∀ x g', Q1 x g' → Wp M E (pc + 3) L (.int x :: rest) g' Q) : Wp M E pc L st g Q :=
  e_callS as hd hk hn hst hr hC (fun v g' h => by obtain ⟨x, rfl, hx⟩ := h; exact k x g' hx)
theorem e_callSv {Q1 : Sg → Prop} (as : List Value) (hd : decode M.2.1 pc = .ok (.invokestatic idx, 3)) (hk : SL M M' idx n) (hn : as.length = n) (hst : st = as.reverse ++ rest) (hr : (rest.map fun v => v.category).sum ≤ 8) (hC : Cv M' as g Q1) (k : ∀ g', Q1 g' → Wp M E (pc + 3) L rest g' Q) : Wp M E pc L st g Q :=
  e_callS as hd hk hn hst hr hC (fun v g' h => by obtain ⟨rfl, hx⟩ := h; exact k g' hx)
theorem e_callSj {Q1 : Int64 → Sg → Prop} (as : List Value) (hd : decode M.2.1 pc = .ok (.invokestatic idx, 3)) (hk : SL M M' idx n) (hn : as.length = n) (hst : st = as.reverse ++ rest) (hr : (rest.map fun v => v.category).sum ≤ 8) (hC : Cj M' as g Q1) (k : ∀ x g', Q1 x g' → Wp M E (pc + 3) L (.long x :: rest) g' Q) : Wp M E pc L st g Q :=
  e_callS as hd hk hn hst hr hC (fun v g' h => by obtain ⟨x, rfl, hx⟩ := h; exact k x g' hx)
theorem e_callSNi {Q1 : Int32 → Sg → Prop} (as : List Value) (hd : decode M.2.1 pc = .ok (.invokestatic idx, 3)) (hk : SN M M' idx n) (hn : as.length = n) (hst : st = as.reverse ++ rest) (hr : (rest.map fun v => v.category).sum ≤ 8) (hC : Ci M' as g Q1) (k : ∀ x g', Q1 x g' → Wp M E (pc + 3) L (.int x :: rest) g' Q) : Wp M E pc L st g Q :=
  e_callSN as hd hk hn hst hr hC (fun v g' h => by obtain ⟨x, rfl, hx⟩ := h; exact k x g' hx)
theorem e_callVi {Q1 : Int32 → Sg → Prop} {a ci : Nat} {fs : List (Option Nat)} (as : List Value) (hd : decode M.2.1 pc = .ok (.invokevirtual idx, 3)) (hk : VL M M' idx n ci) (hs : shape[a]? = some (.inr (ci, fs))) (hn : as.length = n) (hst : st = as.reverse ++ .ref a :: rest) (hr : (rest.map fun v => v.category).sum ≤ 8) (hC : Ci M' (.ref a :: as) g Q1) (k : ∀ x g', Q1 x g' → Wp M E (pc + 3) L (.int x :: rest) g' Q) : Wp M E pc L st g Q :=
  e_callV as hd hk hs hn hst hr hC (fun v g' h => by obtain ⟨x, rfl, hx⟩ := h; exact k x g' hx)
theorem e_callVv {Q1 : Sg → Prop} {a ci : Nat} {fs : List (Option Nat)} (as : List Value) (hd : decode M.2.1 pc = .ok (.invokevirtual idx, 3)) (hk : VL M M' idx n ci) (hs : shape[a]? = some (.inr (ci, fs))) (hn : as.length = n) (hst : st = as.reverse ++ .ref a :: rest) (hr : (rest.map fun v => v.category).sum ≤ 8) (hC : Cv M' (.ref a :: as) g Q1) (k : ∀ g', Q1 g' → Wp M E (pc + 3) L rest g' Q) : Wp M E pc L st g Q :=
  e_callV as hd hk hs hn hst hr hC (fun v g' h => by obtain ⟨rfl, hx⟩ := h; exact k g' hx)
theorem e_callVj {Q1 : Int64 → Sg → Prop} {a ci : Nat} {fs : List (Option Nat)} (as : List Value) (hd : decode M.2.1 pc = .ok (.invokevirtual idx, 3)) (hk : VL M M' idx n ci) (hs : shape[a]? = some (.inr (ci, fs))) (hn : as.length = n) (hst : st = as.reverse ++ .ref a :: rest) (hr : (rest.map fun v => v.category).sum ≤ 8) (hC : Cj M' (.ref a :: as) g Q1) (k : ∀ x g', Q1 x g' → Wp M E (pc + 3) L (.long x :: rest) g' Q) : Wp M E pc L st g Q :=
  e_callV as hd hk hs hn hst hr hC (fun v g' h => by obtain ⟨x, rfl, hx⟩ := h; exact k x g' hx)
/-- System.arraycopy among the rows of the world -/
theorem e_copy {a0 a n0 n1 : Nat} {sp dp x : Int32} (hd : decode M.2.1 pc = .ok (.invokestatic idx, 3)) (hk : Cond.methodLink M.1.cls idx arraycopyName ∈ gtbl ∧ Cond.native arraycopyName ∈ gtbl ∧ Cond.static arraycopyName ∈ gtbl ∧ Cond.initialized "java/lang/System" ∈ gtbl) (hs0 : shape[a0]? = some (.inl n0)) (hs : shape[a]? = some (.inl n1))
    (h1 : ¬ sp < 0) (h2 : ¬ dp < 0) (h3 : ¬ x < 0) (h4 : sp.toNatClampNeg + x.toNatClampNeg ≤ n0) (h5 : dp.toNatClampNeg + x.toNatClampNeg ≤ n1) (hfr : 1 ≤ M.2.2.2.2.1) (hlo : (rest.map fun v => v.category).sum + (nativeFrameWords "java/lang/System" "arraycopy" 5 + 11) ≤ M.2.2.2.2.2)
    (k : Wp M E (pc + 3) L rest (sgC g a (va_cpy (g a0) (g a) sp.toNatClampNeg dp.toNatClampNeg x.toNatClampNeg)) Q) : Wp M E pc L (.int x :: .int dp :: .ref a :: .int sp :: .ref a0 :: rest) g Q := by
  intro p l e R s m args below meth c D ad cA cells slots Qf C hE hQ H locs ls hP hS hl
  obtain ⟨hx, hb, hml, hrt, hlk, hown, hts, hN, hK, hI, hF, hLo, hce, hsl⟩ := id C
  refine va_copyi hx hb (hml.trans hl.1.symm) hown (hts _ hk.1) (hts _ hk.2.1) (hts _ hk.2.2.1) (hts _ hk.2.2.2) hK hP (wl_D hI) hS a0 a 0 0 (wl_at hs0) (wl_at hs) rfl rfl rfl h1 h2 h3 h4 h5 (fun i _ => rfl) (Nat.le_trans hfr hF) (Nat.le_trans (by rw [cat_sum]; exact hlo) hLo) hd (fun H locs hP hD hS => ?_)
  have e1 : (wl ad cA g).set a (ad a, .inl (cA, n1, .inl (va_cpy (g a0) (g a) sp.toNatClampNeg dp.toNatClampNeg x.toNatClampNeg))) = wl ad cA (sgC g a (va_cpy (g a0) (g a) sp.toNatClampNeg dp.toNatClampNeg x.toNatClampNeg)) :=
    wl_set hs (by simp [wcell, sgC]) (fun i hi => by simp [sgC, hi])
  exact k p l e R s m args below meth c D ad cA cells slots Qf C hE hQ H locs ls (by rw [← e1]; exact hP) hS hl
end Ev3
