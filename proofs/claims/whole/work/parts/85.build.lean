/-! the constructors: a world that grows -/
def MB (M : MI) (p : Program) (R : Room) (s : State) (m : MethodId) (args : Array Value) (meth : Method) (c : Code) (D : va_G) (cA : ClassId) : Prop :=
  p.tables.exec = Jvm.exec ∧ c.code = M.2.1 ∧ c.maxLocals = M.2.2.1 ∧ meth.locks = false ∧ s.vm.findClass M.1.cls = some m.cls ∧ (∀ w ∈ gtbl, w.before args s = true) ∧ nst s ∧ va_K D vwCl [(cA, .int)] s ∧ meth.name = M.1.name ∧ M.2.2.2.2.1 ≤ R.frames ∧ M.2.2.2.2.2 ≤ R.locals
/-- from here the constructor comes to its end, with a world of which Q holds, mc cells and ms slots made -/
def Bw (M : MI) (cA : ClassId) (mc ms : Nat) (pc : Nat) (L : Ls) (st : List Value) (ws : va_W) (k n : Nat) (Q : va_W → Prop) : Prop :=
  ∀ (p : Program) (l : Launch) (e : Env) (R : Room) (s : State) (m : MethodId) (args : Array Value) (below : List Frame) (meth : Method) (c : Code) (D : va_G) (A : Nat → Prop) (Qf : State → Prop),
    MB M p R s m args meth c D cA → mc ≤ R.cells → ms ≤ R.slots → (∀ q, s.heap.size ≤ q → A q) →
    (∀ (w1 : va_W) (H : Heap) (locs : List Loc) (pc : Nat) (ls : Array Slot), Q w1 → va_P D vwCl w1 H → va_D A w1 → va_S A s.heap H locs → decode M.2.1 pc = .ok (.return_, 1) → W p l e R s m args below meth c H locs mc ms Qf (F0 m pc ls [])) →
    ∀ (H : Heap) (locs : List Loc) (ls : Array Slot), va_P D vwCl ws H → va_D A ws → va_S A s.heap H locs → lh id ls M.2.2.1 L → W p l e R s m args below meth c H locs k n Qf (F0 m pc ls st)
/-- a constructor's contract -/
def Kn (M : MI) (cA : ClassId) (as : List Value) (w0 : va_W) (mc ms : Nat) (Q : va_W → Prop) : Prop :=
  ∀ (l : Launch) (D : va_G) (sz : Nat), Met l M.1 (Cond.code M.1 M.2.1 M.2.2.1 M.2.2.2.1 :: gtbl) { frames := M.2.2.2.2.1, cells := mc, slots := ms, locals := M.2.2.2.2.2 }
    (fun v U => v = as.toArray ∧ U.heap.size = sz ∧ va_P D vwCl w0 U.heap ∧ va_K D vwCl [(cA, .int)] U ∧ va_D (fun _ => True) w0 ∧ nst U)
    (va_Qv Q (fun w1 t => va_P D vwCl w1 t.heap ∧ va_D (va_A w0 sz) w1) (va_A w0 sz)) mc ms (va_A w0 sz)
theorem rv_id (v : Value) : rv id v = v := by cases v <;> rfl
theorem map_rv_id (l : List Value) : l.map (rv id) = l := by
  have : rv id = id := funext rv_id
  rw [this, List.map_id]
theorem Kn.of {M : MI} {cA : ClassId} {as : List Value} {w0 : va_W} {mc ms : Nat} {Q : va_W → Prop} (n : Nat) (hy : Jvm.plainName M.1.cls = true) (hr0 : M.2.2.2.1 = none) (hn : (enL as).length + n = M.2.2.1) (h : Bw M cA mc ms 0 (enL as ++ List.replicate n none) [] w0 0 0 Q) : Kn M cA as w0 mc ms Q := by
  intro l D sz
  refine Met.ofW (cc := M.2.1) (maxL := M.2.2.1) (ret := M.2.2.2.1) hy rfl ?_
  intro p e s m args below meth c s₁ B hml hv
  obtain ⟨rfl, hsz, hP, hK, hD0, hN⟩ := hv
  have hts := atoms_spec (ws := Cond.code M.1 M.2.1 M.2.2.1 M.2.2.2.1 :: gtbl) B.pre
  have hown : s.vm.findClass M.1.cls = some m.cls := findClass_of_methodNamed B.named
  have hin : meth.name = M.1.name := (name_of_methodNamed B.named B.method).1
  have hlk := B.notSynchronized
  subst hsz
  have hD := hD0.self (sz := s.heap.size)
  have hlen := enL_len id as
  rw [map_rv_id] at hlen
  have hle : (lg_sl as).length ≤ M.2.2.1 := by rw [hlen]; omega
  have hl := lv_entry as hle
  rw [lg_entry_eq]
  have hlh : lh id ((lg_sl as ++ List.replicate (M.2.2.1 - (lg_sl as).length) Slot.unset).toArray) M.2.2.1 (enL as ++ List.replicate n none) := by
    refine ⟨hl.1, hl.2.1, fun i v hi => ?_⟩
    by_cases hil : i < (enL as).length
    · rw [List.getElem?_append_left hil] at hi
      have := enL_args (ad := id) as 0 i v hi
      rw [Nat.zero_add, map_rv_id] at this
      exact hl.2.2 _ this
    · rw [List.getElem?_append_right (by omega)] at hi
      have := List.eq_of_mem_replicate (List.mem_of_getElem? hi)
      cases this
  refine h p l e _ s m _ below meth c D (va_A w0 s.heap.size) _ ⟨B.exec, B.bytes, hml, hlk, hown, fun w hw => hts w (List.mem_cons_of_mem _ hw), hN, hK, hin, Nat.le_refl _, Nat.le_refl _⟩ (Nat.le_refl _) (Nat.le_refl _) (fun q hq => Or.inr hq) ?_ s.heap [] _ hP hD va_S.rf hlh
  intro w1 H locs pc ls hq hP1 hD1 hS1 hd
  exact W.vret B.exec B.bytes (B.returns.trans hr0) (fun t ht hW => ⟨⟨w1, rfl, hq, by rw [ht]; exact hP1, hD1⟩, hS1.F ht⟩) hS1.2.2 hd
section Bv
variable {M M' : MI} {cA : ClassId} {mc ms pc k n : Nat} {L L' : Ls} {st rest : List Value} {ws ws' : va_W} {Q : va_W → Prop}
theorem b_ret (hd : decode M.2.1 pc = .ok (.return_, 1)) (hq : Q ws) : Bw M cA mc ms pc L [] ws mc ms Q :=
  fun p l e R s m args below meth c D A Qf C h1 h2 hA hQ H locs ls hP hD hS hl => hQ ws H locs pc ls hq hP hD hS hd
theorem b_aload {j : Fin 4} {x : Nat} (hd : decode M.2.1 pc = .ok (.aload_n j, 1)) (hx : L[(j : Nat)]? = some (some (.ref x))) (kk : Bw M cA mc ms (pc + 1) L (.ref x :: st) ws k n Q) : Bw M cA mc ms pc L st ws k n Q :=
  fun p l e R s m args below meth c D A Qf C h1 h2 hA hQ H locs ls hP hD hS hl => lv_aload_n C.1 C.2.1 hd rfl (hl.2.2 _ _ hx) (kk p l e R s m args below meth c D A Qf C h1 h2 hA hQ H locs ls hP hD hS hl)
theorem b_iload {j : Fin 4} {x : Int32} (hd : decode M.2.1 pc = .ok (.iload_n j, 1)) (hx : L[(j : Nat)]? = some (some (.int x))) (kk : Bw M cA mc ms (pc + 1) L (.int x :: st) ws k n Q) : Bw M cA mc ms pc L st ws k n Q :=
  fun p l e R s m args below meth c D A Qf C h1 h2 hA hQ H locs ls hP hD hS hl => lv_iload_n C.1 C.2.1 hd rfl (hl.2.2 _ _ hx) (kk p l e R s m args below meth c D A Qf C h1 h2 hA hQ H locs ls hP hD hS hl)
theorem b_iconst {z : Int} {v : Int32} (hd : decode M.2.1 pc = .ok (.iconst z, 1)) (hv : Int32.ofInt z = v) (kk : Bw M cA mc ms (pc + 1) L (.int v :: st) ws k n Q) : Bw M cA mc ms pc L st ws k n Q :=
  fun p l e R s m args below meth c D A Qf C h1 h2 hA hQ H locs ls hP hD hS hl => lv_iconst C.1 C.2.1 hd hv (kk p l e R s m args below meth c D A Qf C h1 h2 hA hQ H locs ls hP hD hS hl)
theorem b_bipush {z : Int} {v : Int32} (hd : decode M.2.1 pc = .ok (.bipush z, 2)) (hv : (Int8.ofInt z).toInt32 = v) (kk : Bw M cA mc ms (pc + 2) L (.int v :: st) ws k n Q) : Bw M cA mc ms pc L st ws k n Q :=
  fun p l e R s m args below meth c D A Qf C h1 h2 hA hQ H locs ls hP hD hS hl => lv_bipush C.1 C.2.1 hd hv (kk p l e R s m args below meth c D A Qf C h1 h2 hA hQ H locs ls hP hD hS hl)
theorem b_sipush {z : Int} {v : Int32} (hd : decode M.2.1 pc = .ok (.sipush z, 3)) (hv : (Int16.ofInt z).toInt32 = v) (kk : Bw M cA mc ms (pc + 3) L (.int v :: st) ws k n Q) : Bw M cA mc ms pc L st ws k n Q :=
  fun p l e R s m args below meth c D A Qf C h1 h2 hA hQ H locs ls hP hD hS hl => lv_sipush C.1 C.2.1 hd hv (kk p l e R s m args below meth c D A Qf C h1 h2 hA hQ H locs ls hP hD hS hl)
theorem b_dup {x : Nat} (hd : decode M.2.1 pc = .ok (.dup, 1)) (kk : Bw M cA mc ms (pc + 1) L (.ref x :: .ref x :: st) ws k n Q) : Bw M cA mc ms pc L (.ref x :: st) ws k n Q :=
  fun p l e R s m args below meth c D A Qf C h1 h2 hA hQ H locs ls hP hD hS hl => lv_dup C.1 C.2.1 hd rfl (kk p l e R s m args below meth c D A Qf C h1 h2 hA hQ H locs ls hP hD hS hl)
theorem b_istore {j : Fin 4} {x : Int32} (hd : decode M.2.1 pc = .ok (.istore_n j, 1)) (hn : (j : Nat) < M.2.2.1) (hL : st1 L j (.int x) = L') (kk : Bw M cA mc ms (pc + 1) L' st ws k n Q) : Bw M cA mc ms pc L (.int x :: st) ws k n Q := by
  subst hL
  exact fun p l e R s m args below meth c D A Qf C h1 h2 hA hQ H locs ls hP hD hS hl => lv_istore_n C.1 C.2.1 hd rfl hl.has hn rfl (fun ls' hl' => kk p l e R s m args below meth c D A Qf C h1 h2 hA hQ H locs ls' hP hD hS (lh_st1 hl'))
theorem b_iinc {j : Nat} {z : Int} {x v : Int32} (hd : decode M.2.1 pc = .ok (.iinc j z, 3)) (hx : L[j]? = some (some (.int x))) (hn : j < M.2.2.1) (hv : x + Int32.ofInt z = v) (hL : st1 L j (.int v) = L') (kk : Bw M cA mc ms (pc + 3) L' st ws k n Q) : Bw M cA mc ms pc L st ws k n Q := by
  subst hL
  subst hv
  intro p l e R s m args below meth c D A Qf C h1 h2 hA hQ H locs ls hP hD hS hl
  obtain ⟨i, hi⟩ := List.getElem?_of_mem (mem_prs (ad := id) hx)
  exact lv_iinc C.1 C.2.1 hd hl.has hi rfl hn rfl (fun ls' hl' => kk p l e R s m args below meth c D A Qf C h1 h2 hA hQ H locs ls' hP hD hS (lh_st1 hl'))
theorem b_goto {off : Int} {tgt : Nat} (hd : decode M.2.1 pc = .ok (.goto off, 3)) (ht : (pc : Int) + off = (tgt : Int)) (kk : Bw M cA mc ms tgt L st ws k n Q) : Bw M cA mc ms pc L st ws k n Q :=
  fun p l e R s m args below meth c D A Qf C h1 h2 hA hQ H locs ls hP hD hS hl => lv_goto C.1 C.2.1 hd ht (kk p l e R s m args below meth c D A Qf C h1 h2 hA hQ H locs ls hP hD hS hl)
theorem b_icmp_ge {x y : Int32} {off : Int} {tgt : Nat} (hd : decode M.2.1 pc = .ok (.if_icmp .ge off, 3)) (ht : (pc : Int) + off = (tgt : Int)) (kt : y ≤ x → Bw M cA mc ms tgt L st ws k n Q) (kf : ¬ y ≤ x → Bw M cA mc ms (pc + 3) L st ws k n Q) : Bw M cA mc ms pc L (.int y :: .int x :: st) ws k n Q :=
  fun p l e R s m args below meth c D A Qf C h1 h2 hA hQ H locs ls hP hD hS hl => lv_icmp_ge C.1 C.2.1 hd ht (fun h => kt h p l e R s m args below meth c D A Qf C h1 h2 hA hQ H locs ls hP hD hS hl) (fun h => kf h p l e R s m args below meth c D A Qf C h1 h2 hA hQ H locs ls hP hD hS hl)
theorem b_alen {a N q0 : Nat} {f : Nat → Int32} {v : Int32} (hd : decode M.2.1 pc = .ok (.arraylength, 1)) (he : ws[q0]? = some (a, .inl (cA, N, .inl f))) (hv : Int32.ofNat N = v) (kk : Bw M cA mc ms (pc + 1) L (.int v :: st) ws k n Q) : Bw M cA mc ms pc L (.ref a :: st) ws k n Q := by
  subst hv
  exact fun p l e R s m args below meth c D A Qf C h1 h2 hA hQ H locs ls hP hD hS hl => va_alen C.1 C.2.1 C.2.2.2.2.2.2.2.1 hP q0 0 he rfl rfl hd (kk p l e R s m args below meth c D A Qf C h1 h2 hA hQ H locs ls hP hD hS hl)
theorem b_iast {a N q0 : Nat} {f : Nat → Int32} {i x : Int32} (hd : decode M.2.1 pc = .ok (.iastore, 1)) (he : ws[q0]? = some (a, .inl (cA, N, .inl f))) (hi : vp_in i N) (hw : ws.set q0 (a, .inl (cA, N, .inl (upd f i.toNatClampNeg x))) = ws') (kk : Bw M cA mc ms (pc + 1) L st ws' k n Q) : Bw M cA mc ms pc L (.int x :: .int i :: .ref a :: st) ws k n Q := by
  subst hw
  exact fun p l e R s m args below meth c D A Qf C h1 h2 hA hQ H locs ls hP hD hS hl => va_iast C.1 C.2.1 C.2.2.2.2.2.2.2.1 hP hD hS q0 0 he rfl hi hd (fun H1 locs1 hP1 hD1 hS1 => kk p l e R s m args below meth c D A Qf C h1 h2 hA hQ H1 locs1 ls hP1 hD1 hS1 hl)
theorem b_obj {idx a : Nat} (hd : decode M.2.1 pc = .ok (.invokespecial idx, 3)) (hk : Cond.methodLink M.1.cls idx objectInit ∈ gtbl ∧ Cond.instanceMethod objectInit ∈ gtbl ∧ Cond.code objectInit ⟨#[0xb1]⟩ 1 none ∈ gtbl) (hf : 1 ≤ M.2.2.2.2.1) (hlo : 12 ≤ M.2.2.2.2.2) (kk : Bw M cA mc ms (pc + 3) L [] ws k n Q) : Bw M cA mc ms pc L [.ref a] ws k n Q := by
  intro p l e R s m args below meth c D A Qf C h1 h2 hA hQ H locs ls hP hD hS hl
  refine W.objInit C.1 C.2.1 C.2.2.2.2.1 (C.2.2.2.2.2.1 _ hk.1) (C.2.2.2.2.2.1 _ hk.2.1) (C.2.2.2.2.2.1 _ hk.2.2) rfl (hl.1.trans C.2.2.1.symm) rfl hd (Nat.le_trans hf C.2.2.2.2.2.2.2.2.2.1) (Nat.le_trans hlo C.2.2.2.2.2.2.2.2.2.2) ?_
  exact kk p l e R s m args below meth c D A Qf C h1 h2 hA hQ H locs ls hP hD hS hl
theorem b_newa {v : Int32} {N : Nat} (hd : decode M.2.1 pc = .ok (.newarray .int, 2)) (harr : Cond.arrayClass .int ∈ gtbl) (hn : ¬ v < 0) (hN : v.toNatClampNeg = N) (hb : N ≤ 1000) (hk : k + 1 ≤ mc) (hsl : n + N ≤ ms) (kk : ∀ q, Bw M cA mc ms (pc + 2) L (.ref q :: st) (ws ++ [(q, .inl (cA, N, .inl (fun _ => 0)))]) (k + 1) (n + N) Q) : Bw M cA mc ms pc L (.int v :: st) ws k n Q := by
  intro p l e R s m args below meth c D A Qf C h1 h2 hA hQ H locs ls hP hD hS hl
  have hK := C.2.2.2.2.2.2.2.1
  refine va_newa (atype := .int) (a0 := (N, .inl (fun _ => 0))) C.1 C.2.1 (C.2.2.2.2.2.1 _ harr) (ty := .int) rfl hK hP hD hS hA (fun _ => rfl) hn hN (by show N * 4 ≤ 536870912; omega) (Nat.le_trans hk h1) (Nat.le_trans hsl h2) hd (fun q cA' H1 hK1 hP1 hD1 hS1 => ?_)
  have e1 : va_RA s cA .int := (hK.2 0 _ rfl).2
  have e2 : va_RA s cA' .int := (hK1.2 1 _ rfl).2
  have e3 : cA' = cA := Option.some.inj (Eq.trans (Eq.symm e2) e1)
  subst e3
  exact kk q p l e R s m args below meth c D A Qf C h1 h2 hA hQ H1 locs ls hP1 hD1 hS1 hl
def NWo (own : String) (idx ci N : Nat) (fs : List Value) : Prop := ∃ (C : String) (T : u_T) (ty : Nat → FieldType), vwCl[ci]? = some (C, T, N) ∧ (∀ w ∈ u_ws C T N, w ∈ gtbl) ∧ (∀ k, k < N → parseFieldDescriptor (T k).2.2.1 = some (ty k)) ∧ Cond.classLink own idx C ∈ gtbl ∧ Cond.instantiable C N ∈ gtbl ∧ Cond.initialized C ∈ gtbl ∧ ∀ j, j < N → defaultValue (ty j) = vp_V fs j
theorem b_new {idx ci N : Nat} {fs : List Value} (hd : decode M.2.1 pc = .ok (.new idx, 3)) (hw : NWo M.1.cls idx ci N fs) (hk : k + 1 ≤ mc) (hsl : n + N ≤ ms) (kk : ∀ q, Bw M cA mc ms (pc + 3) L (.ref q :: st) (ws ++ [(q, .inr (ci, fs))]) (k + 1) (n + N) Q) : Bw M cA mc ms pc L st ws k n Q := by
  intro p l e R s m args below meth c D A Qf C h1 h2 hA hQ H locs ls hP hD hS hl
  obtain ⟨Cn, T, ty, w1, w2, w3, w4, w5, w6, w7⟩ := hw
  exact va_new (ci := ci) (fs := fs) (C := Cn) (T := T) (N := N) C.1 C.2.1 C.2.2.2.2.2.1 w2 ty w3 C.2.2.2.2.1 (C.2.2.2.2.2.1 _ w4) (C.2.2.2.2.2.1 _ w5) (C.2.2.2.2.2.1 _ w6) C.2.2.2.2.2.2.2.1 hP hD hS hA w1 w7 (Nat.le_trans hk h1) (Nat.le_trans hsl h2) hd (fun q H1 hP1 hD1 hS1 => kk q p l e R s m args below meth c D A Qf C h1 h2 hA hQ H1 locs ls hP1 hD1 hS1 hl)
/-- a field that the constructor writes once -/
def FF (own : String) (idx ci j : Nat) (ty : FieldType) : Prop := ∃ (C : String) (T : u_T) (N : Nat), vwCl[ci]? = some (C, T, N) ∧ j < N ∧ (∀ w ∈ u_ws C T N, w ∈ gtbl) ∧ Cond.fieldLink own idx (T j).1 (T j).2.1 (T j).2.2.1 ∈ gtbl ∧
  (∃ ty0 : Nat → FieldType, ∀ k, k < N → parseFieldDescriptor (T k).2.2.1 = some (ty0 k)) ∧ (∀ a, a < N → ∀ b, b < N → a ≠ b → (T a).2.1 ≠ (T b).2.1) ∧ (T j).2.2.2 = true ∧ (T j).1 = own ∧ parseFieldDescriptor (T j).2.2.1 = some ty
theorem b_putF {idx ci j a q0 : Nat} {v : Value} {fs : List Value} {ty : FieldType} (hd : decode M.2.1 pc = .ok (.putfield idx, 3)) (hf : FF M.1.cls idx ci j ty) (hi : M.1.name = "<init>") (he : ws[q0]? = some (a, .inr (ci, fs))) (hn : narrow ty v = v) (hfit : fits ty v = true) (hl : j < fs.length) (hw : ws.set q0 (a, .inr (ci, fs.set j v)) = ws') (kk : Bw M cA mc ms (pc + 3) L st ws' k n Q) : Bw M cA mc ms pc L (v :: .ref a :: st) ws k n Q := by
  subst hw
  intro p l e R s m args below meth c D A Qf C h1 h2 hA hQ H locs ls hP hD hS hl2
  obtain ⟨Cn, T, N, w1, w2, w3, w4, ⟨ty0, w5⟩, w6, w7, w8, w9⟩ := hf
  exact va_putF (D := D) (ci := ci) (v := v) (ty := ty) (C := Cn) (T := T) (N := N) C.1 C.2.1 C.2.2.2.2.2.1 w3 ty0 w5 w6 C.2.2.2.2.1 C.2.2.2.2.2.2.2.1 hP hD hS q0 he w1 j w2 (C.2.2.2.2.2.1 _ w4) (fun _ h9 => h9) w7 (C.2.2.2.2.2.2.2.2.1.trans hi) w8 w9 hn hfit hl hd (fun H1 locs1 hP1 hD1 hS1 => kk p l e R s m args below meth c D A Qf C h1 h2 hA hQ H1 locs1 ls hP1 hD1 hS1 hl2)
theorem b_putI {idx ci j a q0 : Nat} {x : Int32} {fs : List Value} (hd : decode M.2.1 pc = .ok (.putfield idx, 3)) (hf : FP M.1.cls idx ci j) (he : ws[q0]? = some (a, .inr (ci, fs))) (hl : j < fs.length) (hw : ws.set q0 (a, .inr (ci, fs.set j (.int x))) = ws') (kk : Bw M cA mc ms (pc + 3) L st ws' k n Q) : Bw M cA mc ms pc L (.int x :: .ref a :: st) ws k n Q := by
  subst hw
  intro p l e R s m args below meth c D A Qf C h1 h2 hA hQ H locs ls hP hD hS hl2
  obtain ⟨Cn, T, N, w1, w2, w3, w4, ⟨ty0, w5⟩, w6, w7, w8⟩ := hf
  exact va_put (D := D) (ci := ci) (v := .int x) (ty := .int) (C := Cn) (T := T) (N := N) C.1 C.2.1 C.2.2.2.2.2.1 w3 ty0 w5 w6 C.2.2.2.2.1 C.2.2.2.2.2.2.2.1 hP hD hS q0 he w1 j w2 (C.2.2.2.2.2.1 _ w4) (fun _ h9 => h9) w7 w8 rfl rfl hl hd (fun H1 locs1 hP1 hD1 hS1 => kk p l e R s m args below meth c D A Qf C h1 h2 hA hQ H1 locs1 ls hP1 hD1 hS1 hl2)
theorem b_get {idx ci j a q0 : Nat} {v : Value} {fs : List Value} (hd : decode M.2.1 pc = .ok (.getfield idx, 3)) (hf : FL M.1.cls idx ci j) (he : ws[q0]? = some (a, .inr (ci, fs))) (hv : fs[j]? = some v) (kk : Bw M cA mc ms (pc + 3) L (v :: st) ws k n Q) : Bw M cA mc ms pc L (.ref a :: st) ws k n Q := by
  intro p l e R s m args below meth c D A Qf C h1 h2 hA hQ H locs ls hP hD hS hl
  obtain ⟨Cn, T, N, w1, w2, w3, w4⟩ := hf
  exact va_get (D := D) (ci := ci) (v := v) (C := Cn) (T := T) (N := N) C.1 C.2.1 C.2.2.2.2.2.1 w3 C.2.2.2.2.1 C.2.2.2.2.2.2.2.1 hP q0 he w1 j w2 (C.2.2.2.2.2.1 _ w4) (fun _ h9 => h9) hv hd (kk p l e R s m args below meth c D A Qf C h1 h2 hA hQ H locs ls hP hD hS hl)
theorem b_perm (is : List Nat) (hn : va_nd is = true) (hs : is.map (fun i => ws[i]?) = ws'.map some) (hs2 : is.filterMap (fun i => ws[i]?) = ws') (kk : Bw M cA mc ms pc L st ws' k n Q) : Bw M cA mc ms pc L st ws k n Q :=
  fun p l e R s m args below meth c D A Qf C h1 h2 hA hQ H locs ls hP hD hS hl => kk p l e R s m args below meth c D A Qf C h1 h2 hA hQ H locs ls (hP.sub is hs2) (hD.sub is hn hs) hS hl
theorem kn_blind {D : va_G} {cA : ClassId} {as : List Value} {w0 : va_W} {sz : Nat} : FrameBlind (fun v U => v = as.toArray ∧ U.heap.size = sz ∧ va_P D vwCl w0 U.heap ∧ va_K D vwCl [(cA, .int)] U ∧ va_D (fun _ => True) w0 ∧ nst U) := by
  intro a U gg mk q
  obtain ⟨q0, q1, q2, q3, q4, q5⟩ := q
  exact ⟨q0, q1, q2, va_K.moved (u := U) (U := U.calling gg mk a) (Vm.Alike.refl U.vm) q3, q4, fun own i y host hm => va_Nw.same rfl (show U.vm = (U.calling gg mk a).vm from rfl) (q5 own i y host hm)⟩
/-- a call of a constructor, or of a static method, over a part of the world -/
def IL (M M' : MI) (idx n : Nat) : Prop := Cond.methodLink M.1.cls idx M'.1 ∈ gtbl ∧ Cond.instanceMethod M'.1 ∈ gtbl ∧ M'.1.name = "<init>" ∧ CK M M' n
def ILn (M M' : MI) (idx n : Nat) : Prop := (∃ host, Cond.methodLinkNest M.1.cls idx M'.1 host ∈ lw_tbl) ∧ Cond.instanceMethod M'.1 ∈ gtbl ∧ M'.1.name = "<init>" ∧ CK M M' n
theorem b_callI {idx a nA mc' ms' : Nat} {wc wr : va_W} {Q1 : va_W → Prop} (as : List Value) (isC isR : List Nat) (hd : decode M.2.1 pc = .ok (.invokespecial idx, 3)) (hk : IL M M' idx nA) (hr0 : M'.2.2.2.1 = none) (hn : as.length = nA) (hst : st = as.reverse ++ .ref a :: rest) (hr : (rest.map fun v => v.category).sum ≤ 8) (hK' : Kn M' cA (.ref a :: as) wc mc' ms' Q1)
    (hC : isC.map (fun i => ws[i]?) = wc.map some) (hC2 : isC.filterMap (fun i => ws[i]?) = wc) (hR : isR.map (fun i => ws[i]?) = wr.map some) (hnC : va_nd isC = true) (hnR : va_nd isR = true) (hdis : ∀ i ∈ isR, i ∉ isC) (hk1 : k + mc' ≤ mc) (hk2 : n + ms' ≤ ms) (kk : ∀ w1, Q1 w1 → Bw M cA mc ms (pc + 3) L rest (wr ++ w1) (k + mc') (n + ms') Q) : Bw M cA mc ms pc L st ws k n Q := by
  intro p l e R s m args below meth c D A Qf C h1 h2 hA hQ H locs ls hP hD hS hl
  obtain ⟨hx, hb, hml, hlk, hown, hts, hN, hK, hnm, hF, hLo⟩ := id C
  obtain ⟨k1, k2, kin, k3, k4, k5, k6, k7⟩ := hk
  subst hst
  have hPc := hP.sub isC hC2
  have hDc := hD.sub isC hnC hC
  have hFc := va_free (wc := wc) hD hS hA isC hC
  rw [hr0] at k4
  have hM := hK' l D H.size
  rw [hr0] at hM
  refine va_callv (rest := rest) (va_runI (As := as) (Ts := gtbl) ⟨hx, hb, hml, hown, hts⟩ hM ⟨callB_of nA hts (gtbl_in k4) rfl rfl rfl (hts _ k3) (hts _ k1) k5 ⟨Nat.le_trans k6 hF, Nat.le_trans k7 hLo⟩, kin, hts _ k2⟩
    ⟨kn_blind, fun U hU hW => ⟨rfl, by rw [hU], by rw [hU]; exact hPc, va_K.moved hW.alike hK, hDc.weaken (fun _ _ _ _ => trivial), nst_moved hN hW⟩⟩ rfl hn hl.1 rfl (lv_room hr) hd ⟨Nat.le_trans hk1 h1, Nat.le_trans hk2 h2⟩) hS (fun q _ h => hFc q h) hFc (fun w1 t H1 locs1 ht hvm hw hB hz1 hk1' hS1 => ?_)
  obtain ⟨hP1, hD1⟩ := hB
  rw [ht] at hP1
  obtain ⟨hP2, hD2⟩ := va_join (wr := wr) (w1 := w1) hP hD isC isR hC hR hnR hdis hk1' hFc hP1 hD1
  exact kk w1 hw p l e R s m args below meth c D A Qf C h1 h2 hA hQ H1 locs1 ls hP2 hD2 hS1 hl
theorem b_callIN {idx a nA mc' ms' : Nat} {wc wr : va_W} {Q1 : va_W → Prop} (as : List Value) (isC isR : List Nat) (hd : decode M.2.1 pc = .ok (.invokespecial idx, 3)) (hk : ILn M M' idx nA) (hr0 : M'.2.2.2.1 = none) (hn : as.length = nA) (hst : st = as.reverse ++ .ref a :: rest) (hr : (rest.map fun v => v.category).sum ≤ 8) (hK' : Kn M' cA (.ref a :: as) wc mc' ms' Q1)
    (hC : isC.map (fun i => ws[i]?) = wc.map some) (hC2 : isC.filterMap (fun i => ws[i]?) = wc) (hR : isR.map (fun i => ws[i]?) = wr.map some) (hnC : va_nd isC = true) (hnR : va_nd isR = true) (hdis : ∀ i ∈ isR, i ∉ isC) (hk1 : k + mc' ≤ mc) (hk2 : n + ms' ≤ ms) (kk : ∀ w1, Q1 w1 → Bw M cA mc ms (pc + 3) L rest (wr ++ w1) (k + mc') (n + ms') Q) : Bw M cA mc ms pc L st ws k n Q := by
  intro p l e R s m args below meth c D A Qf C h1 h2 hA hQ H locs ls hP hD hS hl
  obtain ⟨hx, hb, hml, hlk, hown, hts, hN, hK, hnm, hF, hLo⟩ := id C
  obtain ⟨⟨host, k1⟩, k2, kin, k3, k4, k5, k6, k7⟩ := hk
  subst hst
  have hPc := hP.sub isC hC2
  have hDc := hD.sub isC hnC hC
  have hFc := va_free (wc := wc) hD hS hA isC hC
  rw [hr0] at k4
  have hM := hK' l D H.size
  rw [hr0] at hM
  refine va_callv (rest := rest) (va_runIN (As := as) (Ts := gtbl) ⟨hx, hb, hml, hown, hts⟩ hM ⟨va_cnB nA hts (gtbl_in k4) rfl rfl rfl (hN _ _ _ _ k1) (hts _ k3) k5 ⟨Nat.le_trans k6 hF, Nat.le_trans k7 hLo⟩, kin, hts _ k2⟩
    ⟨kn_blind, fun U hU hW => ⟨rfl, by rw [hU], by rw [hU]; exact hPc, va_K.moved hW.alike hK, hDc.weaken (fun _ _ _ _ => trivial), nst_moved hN hW⟩⟩ rfl hn hl.1 rfl (lv_room hr) hd ⟨Nat.le_trans hk1 h1, Nat.le_trans hk2 h2⟩) hS (fun q _ h => hFc q h) hFc (fun w1 t H1 locs1 ht hvm hw hB hz1 hk1' hS1 => ?_)
  obtain ⟨hP1, hD1⟩ := hB
  rw [ht] at hP1
  obtain ⟨hP2, hD2⟩ := va_join (wr := wr) (w1 := w1) hP hD isC isR hC hR hnR hdis hk1' hFc hP1 hD1
  exact kk w1 hw p l e R s m args below meth c D A Qf C h1 h2 hA hQ H1 locs1 ls hP2 hD2 hS1 hl
theorem b_callS {idx nA mc' ms' : Nat} {wc wr : va_W} {Q1 : va_W → Prop} (as : List Value) (isC isR : List Nat) (hd : decode M.2.1 pc = .ok (.invokestatic idx, 3)) (hk : SL M M' idx nA) (hr0 : M'.2.2.2.1 = none) (hn : as.length = nA) (hst : st = as.reverse ++ rest) (hr : (rest.map fun v => v.category).sum ≤ 8) (hK' : Kn M' cA as wc mc' ms' Q1)
    (hC : isC.map (fun i => ws[i]?) = wc.map some) (hC2 : isC.filterMap (fun i => ws[i]?) = wc) (hR : isR.map (fun i => ws[i]?) = wr.map some) (hnC : va_nd isC = true) (hnR : va_nd isR = true) (hdis : ∀ i ∈ isR, i ∉ isC) (hk1 : k + mc' ≤ mc) (hk2 : n + ms' ≤ ms) (kk : ∀ w1, Q1 w1 → Bw M cA mc ms (pc + 3) L rest (wr ++ w1) (k + mc') (n + ms') Q) : Bw M cA mc ms pc L st ws k n Q := by
  intro p l e R s m args below meth c D A Qf C h1 h2 hA hQ H locs ls hP hD hS hl
  obtain ⟨hx, hb, hml, hlk, hown, hts, hN, hK, hnm, hF, hLo⟩ := id C
  obtain ⟨k1, k2, k3, k4, k5, k6, k7⟩ := hk
  subst hst
  have hPc := hP.sub isC hC2
  have hDc := hD.sub isC hnC hC
  have hFc := va_free (wc := wc) hD hS hA isC hC
  rw [hr0] at k4
  have hM := hK' l D H.size
  rw [hr0] at hM
  refine va_callv (rest := rest) (va_runS (As := as) (Ts := gtbl) ⟨hx, hb, hml, hown, hts⟩ hM ⟨callB_of nA hts (gtbl_in k4) rfl rfl rfl (hts _ k3) (hts _ k1) k5 ⟨Nat.le_trans k6 hF, Nat.le_trans k7 hLo⟩, hts _ k2⟩
    ⟨kn_blind, fun U hU hW => ⟨rfl, by rw [hU], by rw [hU]; exact hPc, va_K.moved hW.alike hK, hDc.weaken (fun _ _ _ _ => trivial), nst_moved hN hW⟩⟩ rfl hn hl.1 rfl (lv_room hr) hd ⟨Nat.le_trans hk1 h1, Nat.le_trans hk2 h2⟩) hS (fun q _ h => hFc q h) hFc (fun w1 t H1 locs1 ht hvm hw hB hz1 hk1' hS1 => ?_)
  obtain ⟨hP1, hD1⟩ := hB
  rw [ht] at hP1
  obtain ⟨hP2, hD2⟩ := va_join (wr := wr) (w1 := w1) hP hD isC isR hC hR hnR hdis hk1' hFc hP1 hD1
  exact kk w1 hw p l e R s m args below meth c D A Qf C h1 h2 hA hQ H1 locs1 ls hP2 hD2 hS1 hl
end Bv
