/-! the world of the two objects as one function; the judgement Wp; a row an instruction -/
abbrev Sg : Type := Nat → Nat → Int32
def sgU (g : Sg) (k j : Nat) (x : Int32) : Sg := fun k' => if k' = k then upd (g k') j x else g k'
def sgC (g : Sg) (k : Nat) (f : Nat → Int32) : Sg := fun k' => if k' = k then f else g k'
abbrev Shp : Type := Nat ⊕ (Nat × List (Option Nat))
/-- the cells: 0 FerretCables, 1 Pipes (2..6 its rows), 7 Ways (8..10), 11 Book (12..15), 16 Flow (17..19), 20 Lamps (21), 22 Roaming (23..25), 26 Jottings (27..29), 30 Sheets (31..33), 34 the reference (35..54 its rows) -/
def shape : List Shp := [
  .inr (8, [some 1, some 7, some 11, some 16, some 20, some 22, some 26, some 30, none]),
  .inr (4, [some 2, some 3, some 4, some 5, some 6, none, none, none, none, none, none]),
  .inl 79, .inl 16, .inl 16, .inl 16, .inl 16,
  .inr (7, [some 1, some 8, some 9, some 10, none]),
  .inl 16, .inl 8, .inl 8,
  .inr (0, [some 7, some 1, some 12, some 13, some 14, some 15, none]),
  .inl 16, .inl 16, .inl 17, .inl 16,
  .inr (1, [some 7, some 1, some 17, some 18, some 19]),
  .inl 16, .inl 8, .inl 8,
  .inr (3, [some 11, some 7, some 21, none, none, none]),
  .inl 8,
  .inr (5, [some 1, some 23, some 24, some 25]),
  .inl 8, .inl 16, .inl 16,
  .inr (2, [some 27, some 28, some 29, none, none]),
  .inl 8, .inl 8, .inl 6,
  .inr (6, [some 31, some 32, some 33, none]),
  .inl 240, .inl 4, .inl 4,
  .inr (9, [some 35, some 36, some 37, some 38, none, some 39, none, none, none, some 40, some 41, none, some 42, some 43, some 44, none, none, none, some 45, some 46, some 47, some 48, some 49, some 50, some 51, some 52, none, some 53, none, some 54]),
  .inl 4, .inl 4, .inl 240, .inl 60, .inl 79, .inl 64, .inl 3, .inl 32, .inl 16, .inl 16, .inl 8, .inl 16, .inl 16, .inl 16, .inl 8, .inl 3, .inl 32, .inl 32, .inl 24, .inl 6]
def rv (ad : Nat → Nat) : Value → Value
  | .ref a => .ref (ad a)
  | v => v
theorem rv_cat (ad : Nat → Nat) (v : Value) : (rv ad v).category = v.category := by cases v <;> rfl
def wfld (ad : Nat → Nat) (g : Sg) (k j : Nat) : Option Nat → Value
  | some r => .ref (ad r)
  | none => .int (g k j)
def wcell (ad : Nat → Nat) (cA : ClassId) (g : Sg) (k : Nat) : Shp → va_E
  | .inl n => .inl (cA, n, .inl (g k))
  | .inr (ci, fs) => .inr (ci, fs.mapIdx (fun j o => wfld ad g k j o))
def wl (ad : Nat → Nat) (cA : ClassId) (g : Sg) : va_W := shape.mapIdx (fun k c => (ad k, wcell ad cA g k c))
theorem wl_at {ad : Nat → Nat} {cA : ClassId} {g : Sg} {k : Nat} {c : Shp} (h : shape[k]? = some c) : (wl ad cA g)[k]? = some (ad k, wcell ad cA g k c) := by
  simp [wl, List.getElem?_mapIdx, h]
theorem wl_of {ad : Nat → Nat} {cA : ClassId} {g : Sg} {k : Nat} {q : Nat × va_E} (h : (wl ad cA g)[k]? = some q) : ∃ c, shape[k]? = some c ∧ q = (ad k, wcell ad cA g k c) := by
  simp only [wl, List.getElem?_mapIdx] at h
  cases hc : shape[k]? with
  | none => rw [hc] at h; cases h
  | some c => rw [hc] at h; exact ⟨c, rfl, (Option.some.inj h).symm⟩
theorem wl_set {ad : Nat → Nat} {cA : ClassId} {g g' : Sg} {k : Nat} {c : Shp} {x : va_E} (h : shape[k]? = some c) (hx : wcell ad cA g' k c = x) (ho : ∀ i, i ≠ k → g' i = g i) : (wl ad cA g).set k (ad k, x) = wl ad cA g' := by
  apply List.ext_getElem?
  intro i
  rw [List.getElem?_set]
  have hlk : k < (wl ad cA g).length := by
    have h1 := wl_at (ad := ad) (cA := cA) (g := g) h
    exact (List.getElem?_eq_some_iff.mp h1).1
  by_cases hi : k = i
  · subst hi
    rw [if_pos rfl, if_pos hlk, wl_at h, hx]
  · rw [if_neg hi]
    simp only [wl, List.getElem?_mapIdx]
    cases hc : shape[i]? with
    | none => rfl
    | some c' =>
      have e := ho i (fun q => hi q.symm)
      have e2 : wcell ad cA g' i c' = wcell ad cA g i c' := by
        cases c' with
        | inl n => simp [wcell, e]
        | inr o =>
          obtain ⟨ci, fs⟩ := o
          have : (fun j o => wfld ad g' i j o) = (fun j o => wfld ad g i j o) := by
            funext j o
            cases o <;> simp [wfld, e]
          simp [wcell, this]
      simp [e2]
def wA (ad : Nat → Nat) : Nat → Prop := fun q => ∃ k, k < 55 ∧ q = ad k
def adI (ad : Nat → Nat) : Prop := ∀ i j, i < 55 → j < 55 → ad i = ad j → i = j
theorem shape_lt {k : Nat} {c : Shp} (h : shape[k]? = some c) : k < 55 := (List.getElem?_eq_some_iff.mp h).1
theorem wl_D {ad : Nat → Nat} {cA : ClassId} {g : Sg} (h : adI ad) : va_D (wA ad) (wl ad cA g) := by
  refine ⟨fun i j p q hi hj e => ?_, fun k q hk => ?_⟩
  · obtain ⟨c, h1, rfl⟩ := wl_of hi
    obtain ⟨d, h2, rfl⟩ := wl_of hj
    exact h i j (shape_lt h1) (shape_lt h2) e
  · obtain ⟨c, h1, rfl⟩ := wl_of hk
    exact ⟨k, shape_lt h1, rfl⟩
/-- a method: name, code, locals, answer, frames and locals' words that it needs below it -/
abbrev MI : Type := MethodName × ByteArray × Nat × Option FieldType × Nat × Nat
def gtbl : List Cond := lw_tbl.filter goodWord
def nst (s : State) : Prop := ∀ own i y host, Cond.methodLinkNest own i y host ∈ lw_tbl → va_Nw (.methodLinkNest own i y host) s
abbrev Ls : Type := List (Option Value)
def lh (ad : Nat → Nat) (ls : Array Slot) (nL : Nat) (L : Ls) : Prop := ls.size = nL ∧ lv_wf ls ∧ ∀ (i : Nat) (v : Value), L[i]? = some (some v) → ls[i]? = some (.val (rv ad v))
def prs (ad : Nat → Nat) (L : Ls) : List (Nat × Value) := (List.range L.length).filterMap (fun i => match L[i]? with | some (some v) => some (i, rv ad v) | _ => none)
theorem mem_prs {ad : Nat → Nat} {L : Ls} {i : Nat} {v : Value} (h : L[i]? = some (some v)) : (i, rv ad v) ∈ prs ad L := by
  refine List.mem_filterMap.mpr ⟨i, List.mem_range.mpr (List.getElem?_eq_some_iff.mp h).1, ?_⟩
  rw [h]
theorem of_prs {ad : Nat → Nat} {L : Ls} {q : Nat × Value} (h : q ∈ prs ad L) : ∃ v, L[q.1]? = some (some v) ∧ q.2 = rv ad v := by
  obtain ⟨i, -, h⟩ := List.mem_filterMap.mp h
  split at h
  next v hv => cases h; exact ⟨v, hv, rfl⟩
  next => cases h
theorem lh.has {ad : Nat → Nat} {ls : Array Slot} {nL : Nat} {L : Ls} (h : lh ad ls nL L) : lv_has ls nL (prs ad L) := by
  refine ⟨h.1, h.2.1, fun q hq => ?_⟩
  obtain ⟨v, h1, h2⟩ := of_prs hq
  rw [h2]
  exact h.2.2 _ _ h1
def cat2 : Option Value → Bool
  | some v => v.category == 2
  | none => false
/-- a store of one word, of two words -/
def st1 (L : Ls) (i : Nat) (v : Value) : Ls := L.mapIdx (fun j o => if j = i then some v else if j + 1 = i ∧ cat2 o = true then none else o)
def st2 (L : Ls) (i : Nat) (v : Value) : Ls := L.mapIdx (fun j o => if j = i then some v else if j = i + 1 then none else if j + 1 = i ∧ cat2 o = true then none else o)
theorem lh_st1 {ad : Nat → Nat} {ls : Array Slot} {nL : Nat} {L : Ls} {i : Nat} {v : Value} (h : lv_has ls nL ((i, rv ad v) :: (prs ad L).filter (fun q => !(q.1 == i) && !(q.1 + 1 == i && q.2.category == 2)))) : lh ad ls nL (st1 L i v) := by
  refine ⟨h.1, h.2.1, fun j w hj => ?_⟩
  simp only [st1, List.getElem?_mapIdx] at hj
  cases hc : L[j]? with
  | none => rw [hc] at hj; cases hj
  | some o =>
    rw [hc] at hj
    simp only [Option.map_some, Option.some.injEq] at hj
    by_cases hi : j = i
    · subst hi
      rw [if_pos rfl] at hj
      cases hj
      exact h.2.2 _ List.mem_cons_self
    · rw [if_neg hi] at hj
      by_cases h2 : j + 1 = i ∧ cat2 o = true
      · rw [if_pos h2] at hj; cases hj
      · rw [if_neg h2] at hj
        subst hj
        refine h.2.2 (j, rv ad w) (List.mem_cons_of_mem _ (List.mem_filter.mpr ⟨mem_prs hc, ?_⟩))
        have : ¬ (j + 1 = i ∧ w.category = 2) := fun q => h2 ⟨q.1, by simp [cat2, q.2]⟩
        simp [hi, rv_cat]
        exact Classical.not_and_iff_not_or_not.mp this
theorem lh_st2 {ad : Nat → Nat} {ls : Array Slot} {nL : Nat} {L : Ls} {i : Nat} {v : Value} (h : lv_has ls nL ((i, rv ad v) :: (prs ad L).filter (fun q => !(q.1 == i) && (!(q.1 == i + 1) && !(q.1 + 1 == i && q.2.category == 2))))) : lh ad ls nL (st2 L i v) := by
  refine ⟨h.1, h.2.1, fun j w hj => ?_⟩
  simp only [st2, List.getElem?_mapIdx] at hj
  cases hc : L[j]? with
  | none => rw [hc] at hj; cases hj
  | some o =>
    rw [hc] at hj
    simp only [Option.map_some, Option.some.injEq] at hj
    by_cases hi : j = i
    · subst hi
      rw [if_pos rfl] at hj
      cases hj
      exact h.2.2 _ List.mem_cons_self
    · rw [if_neg hi] at hj
      by_cases h3 : j = i + 1
      · rw [if_pos h3] at hj; cases hj
      · rw [if_neg h3] at hj
        by_cases h2 : j + 1 = i ∧ cat2 o = true
        · rw [if_pos h2] at hj; cases hj
        · rw [if_neg h2] at hj
          subst hj
          refine h.2.2 (j, rv ad w) (List.mem_cons_of_mem _ (List.mem_filter.mpr ⟨mem_prs hc, ?_⟩))
          have : ¬ (j + 1 = i ∧ w.category = 2) := fun q => h2 ⟨q.1, by simp [cat2, q.2]⟩
          simp [hi, h3, rv_cat]
          exact Classical.not_and_iff_not_or_not.mp this
def MC (M : MI) (p : Program) (R : Room) (s : State) (m : MethodId) (args : Array Value) (meth : Method) (c : Code) (D : va_G) (ad : Nat → Nat) (cA : ClassId) (cells slots : Nat) : Prop :=
  p.tables.exec = Jvm.exec ∧ c.code = M.2.1 ∧ c.maxLocals = M.2.2.1 ∧ meth.sig.returnType = M.2.2.2.1 ∧ meth.locks = false ∧ s.vm.findClass M.1.cls = some m.cls ∧ (∀ w ∈ gtbl, w.before args s = true) ∧ nst s ∧
  va_K D vwCl [(cA, .int)] s ∧ adI ad ∧ M.2.2.2.2.1 ≤ R.frames ∧ M.2.2.2.2.2 ≤ R.locals ∧ cells ≤ R.cells ∧ slots ≤ R.slots
def RI (M : MI) (pc : Nat) : Option Value → Prop
  | none => decode M.2.1 pc = .ok (.return_, 1) ∧ M.2.2.2.1 = none
  | some (.int x) => decode M.2.1 pc = .ok (.ireturn, 1) ∧ ∃ ty, M.2.2.2.1 = some ty ∧ narrow ty (.int x) = .int x
  | some (.long x) => decode M.2.1 pc = .ok (.lreturn, 1) ∧ M.2.2.2.1 = some .long
  | _ => False
def RK (M : MI) (p : Program) (l : Launch) (e : Env) (R : Room) (s : State) (m : MethodId) (args : Array Value) (below : List Frame) (meth : Method) (c : Code) (D : va_G) (ad : Nat → Nat) (cA : ClassId) (cells slots : Nat) (Qf : State → Prop) (v : Option Value) (g : Sg) : Prop :=
  ∀ (H : Heap) (locs : List Loc) (pc : Nat) (ls : Array Slot), va_P D vwCl (wl ad cA g) H → va_S (wA ad) s.heap H locs → RI M pc v → W p l e R s m args below meth c H locs cells slots Qf (F0 m pc ls (v.toList.map (rv ad)))
/-- from here the method comes to its end, with an answer and a world of which Q holds -/
def Wp (M : MI) (E : State → (Nat → Nat) → Prop) (pc : Nat) (L : Ls) (st : List Value) (g : Sg) (Q : Option Value → Sg → Prop) : Prop :=
  ∀ (p : Program) (l : Launch) (e : Env) (R : Room) (s : State) (m : MethodId) (args : Array Value) (below : List Frame) (meth : Method) (c : Code) (D : va_G) (ad : Nat → Nat) (cA : ClassId) (cells slots : Nat) (Qf : State → Prop),
    MC M p R s m args meth c D ad cA cells slots → E s ad → (∀ v g', Q v g' → RK M p l e R s m args below meth c D ad cA cells slots Qf v g') →
    ∀ (H : Heap) (locs : List Loc) (ls : Array Slot), va_P D vwCl (wl ad cA g) H → va_S (wA ad) s.heap H locs → lh ad ls M.2.2.1 L →
      W p l e R s m args below meth c H locs cells slots Qf (F0 m pc ls (st.map (rv ad)))
def Cl (M : MI) (as : List Value) (g : Sg) (Q : Option Value → Sg → Prop) : Prop :=
  ∀ (l : Launch) (D : va_G) (ad : Nat → Nat) (cA : ClassId), adI ad →
    Met l M.1 (Cond.code M.1 M.2.1 M.2.2.1 M.2.2.2.1 :: gtbl) { frames := M.2.2.2.2.1, cells := 0, slots := 0, locals := M.2.2.2.2.2 }
      (fun v U => v = (as.map (rv ad)).toArray ∧ va_P D vwCl (wl ad cA g) U.heap ∧ va_K D vwCl [(cA, .int)] U ∧ nst U)
      (fun _ st oc t => (∃ v g', oc = .returned (v.map (rv ad)) ∧ Q v g' ∧ va_P D vwCl (wl ad cA g') t.heap) ∧ va_F (wA ad) st t) 0 0 (wA ad)
theorem Wp.mono {M : MI} {E : State → (Nat → Nat) → Prop} {pc : Nat} {L : Ls} {st : List Value} {g : Sg} {Q Q' : Option Value → Sg → Prop} (h : Wp M E pc L st g Q) (hq : ∀ v g', Q v g' → Q' v g') : Wp M E pc L st g Q' :=
  fun p l e R s m args below meth c D ad cA cells slots Qf C hE hQ => h p l e R s m args below meth c D ad cA cells slots Qf C hE (fun v g' q => hQ v g' (hq v g' q))
/-- the locals with which a method begins -/
def enL : List Value → Ls
  | [] => []
  | v :: vs => if v.category = 2 then some v :: none :: enL vs else some v :: enL vs
theorem enL_args {ad : Nat → Nat} : ∀ (as : List Value) (n i : Nat) (v : Value), (enL as)[i]? = some (some v) → (n + i, rv ad v) ∈ lv_args n (as.map (rv ad)) := by
  intro as
  induction as with
  | nil => intro n i v h; simp [enL] at h
  | cons a as ih =>
    intro n i v h
    simp only [List.map_cons, lv_args, rv_cat]
    by_cases hc : a.category = 2
    · simp only [enL, hc, if_true] at h
      rw [if_pos hc]
      match i, h with
      | 0, h => simp at h; subst h; exact List.mem_cons_self
      | 1, h => simp at h
      | i + 2, h =>
        simp at h
        have := ih (n + 2) i v h
        rw [show n + 2 + i = n + (i + 2) by omega] at this
        exact List.mem_cons_of_mem _ this
    · simp only [enL, hc, if_false] at h
      rw [if_neg hc]
      match i, h with
      | 0, h => simp at h; subst h; exact List.mem_cons_self
      | i + 1, h =>
        simp at h
        have := ih (n + 1) i v h
        rw [show n + 1 + i = n + (i + 1) by omega] at this
        exact List.mem_cons_of_mem _ this
theorem enL_len (ad : Nat → Nat) (as : List Value) : (lg_sl (as.map (rv ad))).length = (enL as).length := by
  induction as with
  | nil => rfl
  | cons a as ih =>
    simp only [lg_sl, List.map_cons, List.flatMap_cons, rv_cat, enL] at ih ⊢
    by_cases hc : a.category = 2
    · simp [hc] at ih ⊢; omega
    · simp [hc] at ih ⊢; omega
