/-! rows of the constructors: the heap grows cell by cell, and nothing else is new -/
theorem wr_ao4 : Cond.arrayOver (.object "QuestionReader$Dimension") ∈ lw_tbl := x_l1 (List.mem_of_getElem? (i := 122) rfl)
theorem wr_ao5 : Cond.arrayOver (.object "QuestionReader$Comparison") ∈ lw_tbl := x_l1 (List.mem_of_getElem? (i := 227) rfl)
theorem wr_ao6 : Cond.arrayOver (.array .int) ∈ lw_tbl := x_l1 (List.mem_of_getElem? (i := 129) rfl)
theorem x_aoO {G : x_G} {s : State} (hZ : x_Z G s) {C : String} (hw : Cond.arrayOver (.object C) ∈ lw_tbl) {args : Array Value} : (Cond.arrayOver (.object C)).before args s = true :=
  va_AO.use (va_AO.moved hZ.2.1.alike (va_AO.of (hZ.1.2.2.1 _ hw)))
theorem x_aoA {G : x_G} {s : State} (hZ : x_Z G s) {t : FieldType} (hw : Cond.arrayOver (.array t) ∈ lw_tbl) {args : Array Value} : (Cond.arrayOver (.array t)).before args s = true := by
  have hvm := hZ.2.1.alike
  obtain ⟨comp, c, k, h1, h2, h3, h4, h5⟩ := arrayOverA_spec (hZ.1.2.2.1 _ hw)
  obtain ⟨k', hk', he⟩ := hvm.2.2 _ _ h3
  have hi : (s.vm.classes.findIdx? fun (x : Class) => match x.kind with | .array component _ => component == comp | _ => false) = some c := by
    refine (va_idx_bare s.vm comp).symm.trans ?_
    first | rw [hvm.bare_eq] | rw [← hvm.bare_eq]
    exact (va_idx_bare _ comp).trans h2
  have hkind : k'.kind = .array comp (.array t) := by rw [he]; exact h4
  have f1 : s.vm.findClass (FieldType.array t).toString = some comp := by rw [hvm.findClass]; exact h1
  have f2 : s.vm.findClass ("[" ++ (FieldType.array t).toString) = some c := by rw [hvm.findClass]; exact h5
  unfold Cond.before Cond.holds
  simp only [Cond.value]
  rw [f1, Option.bind_some]
  refine (congrArg (fun o : Option Nat => (o.bind (fun c => (s.vm.classes[c]?).map fun (k : Class) => match k.kind with | .array _ ty => decide (ty = FieldType.array t) && decide (s.vm.findClass ("[" ++ (FieldType.array t).toString) = some c) | _ => false) == some true)) hi).trans ?_
  simp [hk', hkind, f2]
theorem x_nM {G : x_G} {s : State} (hZ : x_Z G s) {a : String} {i : Nat} {x : MethodName} {h : String} (hw : Cond.methodLinkNest a i x h ∈ lw_tbl) {args : Array Value} : (Cond.methodLinkNest a i x h).before args s = true :=
  va_Nw.use rfl (va_Nw.warmM hZ.2.1 (va_Nw.of rfl (hZ.1.2.2.1 _ hw)))
/-! ===== new int[4][1000], by our own hand over the model ===== -/
section YM
variable {E : CtlPost} {e : Env} {d : Bool} {acts : List Action}
/-- one row made, and put into the outer array -/
def y_row (U : State) (a : Nat) (o : Cell) (cI : ClassId) (i : Nat) : State := (U.pushCell { cls := cI, slots := Array.replicate 1000 (.int 0), vm := .none }).setCell a (o.setSlot i (.ref U.heap.size))
theorem y_mk {U : State} {cI cc : ClassId} {kI : Class} {Q : Addr → Pre} (hI : U.vm.classes[cI]? = some kI) (hkI : kI.kind = .array cc .int)
    (hL : e.platform.arrayLengthLimit = 2147483645) (hM : e.platform.maxHeapBytes = 536870912) (hc : U.heap.size + 1 ≤ e.platform.maxCells) (hs : U.slotsUsed + 1000 ≤ e.platform.maxSlots)
    (hq : ∀ acts', Q U.heap.size d acts' (U.pushCell { cls := cI, slots := Array.replicate 1000 (.int 0), vm := .none })) : wp (multianewarray.make cI [1000]) Q E e d acts U := by
  have n1 : ¬ (1000 : Int32) < 0 := by decide
  have n2 : (1000 : Int32).toNatClampNeg = 1000 := by decide
  simp only [multianewarray.make, wp_bind', n1, if_false, wp_pure', W.theClass, hI, Option.some.injEq, exists_eq_left', hkI, n2]
  exact W.newArray_of hI hkI (by rw [hL]; decide) (by rw [hM]; decide) (by omega) hs rfl hq
theorem y_put {U : State} {a : Nat} {o : Cell} {cI cc : ClassId} {kA kI : Class} {i : Nat} {Q : ForInStep PUnit → Pre} (hA : U.vm.classes[o.cls]? = some kA) (hkA : kA.kind = .array cI (.array .int)) (hI : U.vm.classes[cI]? = some kI) (hkI : kI.kind = .array cc .int)
    (ho : U.heap[a]? = some o) (hv : o.vm = .none) (hz : o.slots.size = 4) (hi : i < 4)
    (hL : e.platform.arrayLengthLimit = 2147483645) (hM : e.platform.maxHeapBytes = 536870912) (hc : U.heap.size + 1 ≤ e.platform.maxCells) (hs : U.slotsUsed + 1000 ≤ e.platform.maxSlots)
    (hq : ∀ acts', Q (.yield PUnit.unit) true acts' (y_row U a o cI i)) : wp (multianewarray.make cI [1000]) (fun r => wp (do writeLoc a i (.ref r); Pure.pure (ForInStep.yield PUnit.unit)) Q E e) E e d acts U := by
  refine y_mk hI hkI hL hM hc hs fun acts' => ?_
  rw [wp_bind', W.writeLoc]
  have hlt : a < U.heap.size := (Array.getElem?_eq_some_iff.mp ho).1
  refine ⟨o, ?_, by rw [hv]; exact (fun z => nomatch z), by rw [hz]; exact hi, ?_, hq _⟩
  · show (U.heap.push _)[a]? = some o
    rw [Array.getElem?_push_lt hlt, ← ho, Array.getElem?_eq_getElem hlt]
  · simp [State.fitsSlot, State.slotType?, hv, hA, hkA]; rfl
theorem y_row_sz {U : State} {a : Nat} {o : Cell} {cI : ClassId} {i : Nat} : (y_row U a o cI i).heap.size = U.heap.size + 1 := by
  show ((U.heap.push _).setIfInBounds a _).size = _
  rw [Array.size_setIfInBounds, Array.size_push]
theorem y_row_su {U : State} {a : Nat} {o : Cell} {cI : ClassId} {i : Nat} : (y_row U a o cI i).slotsUsed = U.slotsUsed + 1000 := by
  show U.slotsUsed + (Array.replicate 1000 (Value.int 0)).size = _
  rw [Array.size_replicate]
theorem y_row_at {U : State} {a : Nat} {o : Cell} {cI : ClassId} {i : Nat} (h : a < U.heap.size) : (y_row U a o cI i).heap[a]? = some (o.setSlot i (.ref U.heap.size)) := by
  show ((U.heap.push _).setIfInBounds a _)[a]? = _
  rw [Array.getElem?_setIfInBounds_self_of_lt (by rw [Array.size_push]; omega)]
theorem y_row_old {U : State} {a : Nat} {o : Cell} {cI : ClassId} {i q : Nat} (h : q < U.heap.size) (hq : q ≠ a) : (y_row U a o cI i).heap[q]? = U.heap[q]? := by
  show ((U.heap.push _).setIfInBounds a _)[q]? = _
  rw [Array.getElem?_setIfInBounds_ne (fun z => hq z.symm), Array.getElem?_push_lt h, Array.getElem?_eq_getElem h]
theorem y_row_new {U : State} {a : Nat} {o : Cell} {cI : ClassId} {i : Nat} (h : a < U.heap.size) : (y_row U a o cI i).heap[U.heap.size]? = some { cls := cI, slots := Array.replicate 1000 (.int 0), vm := .none } := by
  show ((U.heap.push _).setIfInBounds a _)[U.heap.size]? = _
  rw [Array.getElem?_setIfInBounds_ne (by omega), Array.getElem?_push_size]
end YM
section YN
variable {E : CtlPost} {e : Env} {d : Bool} {acts : List Action}
/-- the outer array when i of its rows are there -/
def y_ou (cA : ClassId) (b : Nat) : Nat → Cell
  | 0 => { cls := cA, slots := Array.replicate 4 .null, vm := .none }
  | i + 1 => (y_ou cA b i).setSlot i (.ref (b + 1 + i))
/-- the state then -/
def y_U (U : State) (cA cI : ClassId) : Nat → State
  | 0 => U.pushCell (y_ou cA U.heap.size 0)
  | i + 1 => y_row (y_U U cA cI i) U.heap.size (y_ou cA U.heap.size i) cI i
theorem y_U_sz {U : State} {cA cI : ClassId} : ∀ i, (y_U U cA cI i).heap.size = U.heap.size + 1 + i
  | 0 => Array.size_push ..
  | i + 1 => by
    show (y_row _ _ _ _ _).heap.size = _
    rw [y_row_sz, y_U_sz i]; omega
theorem y_U_su {U : State} {cA cI : ClassId} : ∀ i, (y_U U cA cI i).slotsUsed = U.slotsUsed + 4 + 1000 * i
  | 0 => by
    show U.slotsUsed + (Array.replicate 4 Value.null).size = _
    rw [Array.size_replicate]
  | i + 1 => by
    show (y_row _ _ _ _ _).slotsUsed = _
    rw [y_row_su, y_U_su i]; omega
theorem y_U_vm {U : State} {cA cI : ClassId} : ∀ i, (y_U U cA cI i).vm = U.vm
  | 0 => rfl
  | i + 1 => y_U_vm (U := U) i
theorem y_U_at {U : State} {cA cI : ClassId} : ∀ i, (y_U U cA cI i).heap[U.heap.size]? = some (y_ou cA U.heap.size i)
  | 0 => Array.getElem?_push_size ..
  | i + 1 => by
    have := y_U_sz (U := U) (cA := cA) (cI := cI) i
    show (y_row _ _ _ _ _).heap[_]? = _
    rw [y_row_at (by omega), this]; rfl
theorem y_U_old {U : State} {cA cI : ClassId} {q : Nat} (hq : q < U.heap.size) : ∀ i, (y_U U cA cI i).heap[q]? = U.heap[q]?
  | 0 => by
    show (U.heap.push _)[q]? = _
    rw [Array.getElem?_push_lt hq, Array.getElem?_eq_getElem hq]
  | i + 1 => by
    have := y_U_sz (U := U) (cA := cA) (cI := cI) i
    show (y_row _ _ _ _ _).heap[_]? = _
    rw [y_row_old (by omega) (by omega), y_U_old hq i]
theorem y_U_row {U : State} {cA cI : ClassId} {j : Nat} : ∀ i, j < i → (y_U U cA cI i).heap[U.heap.size + 1 + j]? = some { cls := cI, slots := Array.replicate 1000 (.int 0), vm := .none }
  | 0, h => absurd h (Nat.not_lt_zero _)
  | i + 1, h => by
    have hz := y_U_sz (U := U) (cA := cA) (cI := cI) i
    show (y_row _ _ _ _ _).heap[_]? = _
    by_cases e1 : j = i
    · subst e1
      rw [← hz]
      exact y_row_new (by omega)
    · rw [y_row_old (by omega) (by omega)]
      exact y_U_row i (by omega)
theorem y_ou_cls {cA : ClassId} {b : Nat} : ∀ i, (y_ou cA b i).cls = cA
  | 0 => rfl
  | i + 1 => y_ou_cls (b := b) i
theorem y_ou_vm {cA : ClassId} {b : Nat} : ∀ i, (y_ou cA b i).vm = .none
  | 0 => rfl
  | i + 1 => y_ou_vm (b := b) i
theorem y_ou_sz {cA : ClassId} {b : Nat} : ∀ i, (y_ou cA b i).slots.size = 4
  | 0 => Array.size_replicate ..
  | i + 1 => by
    show (Array.setIfInBounds _ _ _).size = _
    rw [Array.size_setIfInBounds, y_ou_sz i]
theorem y_go {U : State} {cA cI cc : ClassId} {kA kI : Class} {i : Nat} {Q : ForInStep PUnit → Pre} (hA : U.vm.classes[cA]? = some kA) (hkA : kA.kind = .array cI (.array .int)) (hI : U.vm.classes[cI]? = some kI) (hkI : kI.kind = .array cc .int) (hi : i < 4)
    (hL : e.platform.arrayLengthLimit = 2147483645) (hM : e.platform.maxHeapBytes = 536870912) (hc : U.heap.size + 5 ≤ e.platform.maxCells) (hs : U.slotsUsed + 4004 ≤ e.platform.maxSlots)
    (hq : ∀ acts', Q (.yield PUnit.unit) true acts' (y_U U cA cI (i + 1))) : wp (multianewarray.make cI [1000]) (fun r => wp (do writeLoc U.heap.size i (.ref r); Pure.pure (ForInStep.yield PUnit.unit)) Q E e) E e d acts (y_U U cA cI i) :=
  y_put (by rw [y_U_vm, y_ou_cls]; exact hA) hkA (by rw [y_U_vm]; exact hI) hkI (y_U_at i) (y_ou_vm i) (y_ou_sz i) hi hL hM (by rw [y_U_sz]; omega) (by rw [y_U_su]; omega) hq
theorem y_make {U : State} {cA cI cc : ClassId} {kA kI : Class} {Q : Addr → Pre} (hA : U.vm.classes[cA]? = some kA) (hkA : kA.kind = .array cI (.array .int)) (hI : U.vm.classes[cI]? = some kI) (hkI : kI.kind = .array cc .int)
    (hL : e.platform.arrayLengthLimit = 2147483645) (hM : e.platform.maxHeapBytes = 536870912) (hc : U.heap.size + 5 ≤ e.platform.maxCells) (hs : U.slotsUsed + 4004 ≤ e.platform.maxSlots)
    (hq : ∀ acts', Q U.heap.size true acts' (y_U U cA cI 4)) : wp (multianewarray.make cA [4, 1000]) Q E e d acts U := by
  have n1 : ¬ (4 : Int32) < 0 := by decide
  have n2 : (4 : Int32).toNatClampNeg = 4 := by decide
  have n3 : ((4 : Int32) == 0) = false := by decide
  rw [multianewarray.make]
  simp only [wp_bind', n1, if_false, wp_pure', W.theClass, hA, Option.some.injEq, exists_eq_left', hkA, n2, n3]
  refine W.newArray_of hA hkA (by rw [hL]; decide) (by rw [hM]; decide) (by omega) (by omega) rfl fun acts' => ?_
  rw [if_neg (by decide)]
  rw [Std.Legacy.Range.forIn_eq_forIn_range']
  show wp (forIn [0, 1, 2, 3] _ _ >>= _) _ _ _ _ _ _
  simp only [List.forIn_cons, List.forIn_nil, wp_bind', wp_pure']
  refine y_go (i := 0) hA hkA hI hkI (by decide) hL hM hc hs fun acts' => ?_
  simp only [wp_bind', wp_pure']
  refine y_go (i := 1) hA hkA hI hkI (by decide) hL hM hc hs fun acts' => ?_
  simp only [wp_bind', wp_pure']
  refine y_go (i := 2) hA hkA hI hkI (by decide) hL hM hc hs fun acts' => ?_
  simp only [wp_bind', wp_pure']
  refine y_go (i := 3) hA hkA hI hkI (by decide) hL hM hc hs fun acts' => ?_
  simp only [wp_bind', wp_pure']
  exact hq _
end YN
section YS
variable {E : CtlPost} {e : Env} {d : Bool} {acts : List Action} {s : State} {f : JFrame}
theorem y_U_top {cA cI : ClassId} {g : JFrame} : ∀ i, y_U (s.setTop g) cA cI i = (y_U s cA cI i).setTop g
  | 0 => rfl
  | i + 1 => by
    show y_row (y_U (s.setTop g) cA cI i) _ _ _ _ = _
    rw [y_U_top i]; rfl
theorem y_row_tj {U : State} {a : Nat} {o : Cell} {cI : ClassId} {i : Nat} : (y_row U a o cI i).topJava? = U.topJava? := rfl
theorem y_U_tj {cA cI : ClassId} : ∀ i, (y_U s cA cI i).topJava? = s.topJava?
  | 0 => rfl
  | i + 1 => by
    show (y_row _ _ _ _ _).topJava? = _
    rw [y_row_tj, y_U_tj i]
theorem y_stand {p : Program} {l : Launch} {R : Room} {m : MethodId} {args : Array Value} {below : List Frame} {meth : Method} {c : Code} {U : State} {locs : List Loc} {cells slots : Nat} {cA cI : ClassId} (X : Stand p l e R s m args below meth c U locs cells slots) :
    ∀ i, Stand p l e R s m args below meth c (y_U U cA cI i) locs (cells + 1 + i) (slots + 4 + 1000 * i)
  | 0 => by
    have h := X.pushed (y_ou cA U.heap.size 0)
    rw [y_ou_sz] at h
    exact h
  | i + 1 => by
    have hz := y_U_sz (U := U) (cA := cA) (cI := cI) i
    have h := (y_stand (cA := cA) (cI := cI) X i).pushed { cls := cI, slots := Array.replicate 1000 (.int 0), vm := .none }
    have hat : ((y_U U cA cI i).pushCell { cls := cI, slots := Array.replicate 1000 (.int 0), vm := .none }).heap[U.heap.size]? = some (y_ou cA U.heap.size i) := by
      have hlt : U.heap.size < (y_U U cA cI i).heap.size := by omega
      show ((y_U U cA cI i).heap.push _)[U.heap.size]? = _
      rw [Array.getElem?_push_lt hlt, ← y_U_at (cI := cI) i, Array.getElem?_eq_getElem hlt]
    have h2 := (h.stored hat i (.ref (y_U U cA cI i).heap.size)).dropFresh (fun x hx => by
      rw [List.mem_singleton.mp hx]
      exact X.heapGrown)
    rw [show (Array.replicate 1000 (Value.int 0)).size = 1000 from Array.size_replicate] at h2
    rw [show cells + 1 + (i + 1) = cells + 1 + i + 1 by omega, show slots + 4 + 1000 * (i + 1) = slots + 4 + 1000 * i + 1000 by omega]
    exact h2
theorem y_cold {index nd c : Nat} {vm' : Vm} {Q : Unit → Pre} (hs : s.topJava?.isSome) (hg : (Jvm.resolveClass f.method.cls index).Gives e.toSetting s.vm (.ok c) vm') (hr : vm'.classReady f.method.cls index c)
    (hsz : vm'.classes.size ≤ s.vm.classes.size := by no_record) :
    wp (multianewarray.sem index nd) Q E e d acts (s.setTop f) ↔ wp (multianewarray.sem index nd) Q E e d acts ((s.setVm vm').setTop f) := by
  simp only [multianewarray.sem, wp_bind']
  exact W.resolveClassAt_transfer (s := s.setTop f) (State.method?_setTop f hs) hg hr
theorem y_sem {index cA cI cc : Nat} {kA kI : Class} {Q : Unit → Pre} {rest : List Value} (hs : s.topJava?.isSome) (hr : s.vm.classReady f.method.cls index cA) (hA : s.vm.classes[cA]? = some kA) (hkA : kA.kind = .array cI (.array .int)) (hI : s.vm.classes[cI]? = some kI) (hkI : kI.kind = .array cc .int)
    (hst : f.stack = .int 1000 :: .int 4 :: rest)
    (hL : e.platform.arrayLengthLimit = 2147483645) (hM : e.platform.maxHeapBytes = 536870912) (hc : s.heap.size + 5 ≤ e.platform.maxCells) (hsl : s.slotsUsed + 4004 ≤ e.platform.maxSlots)
    (hq : ∀ acts', Q () true acts' ((y_U s cA cI 4).setTop { f with stack := .ref s.heap.size :: rest })) : wp (multianewarray.sem index 2) Q E e d acts (s.setTop f) := by
  simp only [multianewarray.sem, wp_bind', W.resolveClassAt_ready (State.method?_setTop f hs) hr, Jvm.popN, W.pop, State.topJava?_setTop' _ hs, Option.some.injEq, exists_eq_left', hst, List.cons.injEq, exists_cons_eq, State.setTop_setTop, wp_pure']
  simp only [List.nil_append, List.cons_append, List.mapM, List.mapM.loop, wp_bind', wp_pure', List.reverse_cons, List.reverse_nil]
  refine y_make (U := s.setTop _) hA hkA hI hkI hL hM hc hsl fun acts' => ?_
  rw [y_U_top]
  simp only [W.mark, W.pushRef, State.topJava?_setTop' _ (show (y_U s cA cI 4).topJava?.isSome by rw [y_U_tj]; exact hs), Option.some.injEq, exists_eq_left', State.setTop_setTop, wp_bind']
  exact hq _
/-- new int[4][1000], in a walk: the outer array and its rows are the newest cells -/
theorem y_mna {p : Program} {l : Launch} {R : Room} {m : MethodId} {args : Array Value} {below : List Frame} {meth : Method} {c : Code} {T : State} {locs : List Loc} {cells slots : Nat} (X : Stand p l e R s m args below meth c T locs cells slots) (hexec : p.tables.exec = Jvm.exec) {own : String} {index : Nat}
    (hown : s.vm.findClass own = some m.cls) (hlk : (Cond.classLink own index "[[I").before args s = true) {cA cI cc : ClassId} {kA kI : Class} (fA : s.vm.findClass "[[I" = some cA) (hA : s.vm.classes[cA]? = some kA) (hkA : kA.kind = .array cI (.array .int)) (hI : s.vm.classes[cI]? = some kI) (hkI : kI.kind = .array cc .int)
    {g : JFrame} (hg : g.method = m) (hd : decode c.code g.pc = .ok (.multianewarray index 2, 4)) {rest : List Value} (hst : g.stack = .int 1000 :: .int 4 :: rest) (hc : cells + 5 ≤ R.cells) (hsl : slots + 4004 ≤ R.slots) :
    ∃ vm₁ : Vm, s.WarmedH vm₁ ∧ Stand p l e R s m args below meth c (y_U (T.setVm vm₁) cA cI 4) locs (cells + 5) (slots + 4004) ∧
      ∀ target, Steps p.tables e below ((y_U (T.setVm vm₁) cA cI 4).setTop { g with pc := g.pc + 4, stack := .ref T.heap.size :: rest }) target → Steps p.tables e below (T.setTop g) target := by
  subst hg
  have hpl : e.platform.magicAccessors = ({} : Platform).magicAccessors := by rw [X.admits.platform]
  obtain ⟨c2, hf2, hcl⟩ := Cond.classLink_spec hown hlk e.platform hpl
  cases fA.symm.trans hf2
  obtain ⟨hg₁, hw₁, hr₁⟩ := State.classEntry (e := e) X.warmed hcl
  generalize T.vm.noted g.method.cls index (.cls cA) = vm₁ at hg₁ hw₁ hr₁
  obtain ⟨kA₁, hA₁, eA⟩ := hw₁.alike.2.2 _ _ hA
  obtain ⟨kI₁, hI₁, eI⟩ := hw₁.alike.2.2 _ _ hI
  obtain ⟨hr1, hr2⟩ := X.roomAbove hc hsl
  refine ⟨vm₁, hw₁, ?_, fun target hrest => ?_⟩
  · have h := y_stand (cA := cA) (cI := cI) (X.noted hw₁) 4
    exact h
  · jvm_step X.here [hexec, hd, y_cold (e := e) (s := T) (f := g) X.here.top hg₁ hr₁]
    refine y_sem (s := T.setVm vm₁) X.here.top hr₁ hA₁ (by rw [eA]; exact hkA) hI₁ (by rw [eI]; exact hkI) hst (Launch.admits_arrayLengthLimit X.admits) (Launch.admits_maxHeapBytes X.admits) hr1 hr2 fun _ _ => ?_
    rw [afterInstr_ok]
    exact hrest
end YS
theorem x_outer (c : ClassId) (b : Nat) : ∀ i : Nat, y_ou c b i = arrV c 4 (fun j => va_rf (if j < i then some (b + 1 + j) else none))
  | 0 => by
    show ({ cls := c, slots := Array.replicate 4 .null, vm := .none } : Cell) = _
    rw [arrV_new]
    exact congrArg (arrV c 4) (funext fun j => by simp [va_rf])
  | i + 1 => by
    show (y_ou c b i).setSlot i (.ref (b + 1 + i)) = _
    rw [x_outer c b i, arrV_store]
    refine congrArg (arrV c 4) (funext fun j => ?_)
    by_cases e : j = i
    · subst e; simp [updV, va_rf]
    · by_cases h : j < i
      · simp [updV, e, h, Nat.lt_succ_of_lt h]
      · simp [updV, e, h, show ¬ j < i + 1 by omega]
/-- the five cells of new int[4][1000] -/
def x_h5 (h : x_h) (n : Nat) : x_h := fun k => if k = n then .inl (6, 4, .inr (.inr (.inr (.inr (fun i => if i < 4 then some (n + 1 + i) else none))))) else if n < k ∧ k < n + 5 then .inl (0, 1000, .inl (fun _ => 0)) else h k
section XN
variable {G : x_G} {M : x_M} {rm : Room} {Qf : List Frame → Array Value → State → State → Prop} {ex : Bool} {n : Nat} {h : x_h} {cells slots : Nat} {lv : List (Nat × Value)} {st stk : List Value} {pc : Nat}
theorem x_cong {h' : x_h} (hq : ∀ k, k < n → h k = h' k) (kk : x_W G M rm Qf ex n h' cells slots lv st pc) : x_W G M rm Qf ex n h cells slots lv st pc :=
  fun p e s m args below meth c F H locs ls hH hS hl => kk p e s m args below meth c F H locs ls ⟨hH.1, hH.2.1, hH.2.2.1, fun k hk => by rw [← hq k hk]; exact hH.2.2.2.1 k hk, hH.2.2.2.2⟩ hS hl
theorem x_exf (kk : x_W G M rm Qf false n h cells slots lv st pc) : x_W G M rm Qf true n h cells slots lv st pc :=
  fun p e s m args below meth c F H locs ls hH hS hl => kk p e s m args below meth c F H locs ls ⟨hH.1, hH.2.1, (fun z => nomatch z), hH.2.2.2.1, hH.2.2.2.2⟩ hS hl
theorem x_objI {index a : Nat} (hd : decode M.2.1 pc = .ok (.invokespecial index, 3)) (hlk : Cond.methodLink M.1.cls index ⟨"java/lang/Object", "<init>", "()V"⟩ ∈ x_tsl) (h1 : 1 ≤ rm.frames) (h2 : 20 ≤ rm.locals) (hw : (st.map fun v => v.category).sum ≤ 8) (kk : x_W G M rm Qf ex n h cells slots lv st (pc + 3)) : x_W G M rm Qf ex n h cells slots lv (.ref a :: st) pc := by
  intro p e s m args below meth c F H locs ls hH hS hl
  obtain ⟨f1, f2, f3, f4, f5, f6, f7, f8, hts, hK⟩ := id F
  exact W.objInit f1 f2 f6 (hts _ hlk) (hts _ w_32) (hts _ w_33) (g := F0 m pc ls (.ref (x_ad G a) :: x_st G st)) rfl (hl.1.trans f3.symm) rfl hd h1 (by show 2 * 0 + ((x_st G st).map fun v => v.category).sum + 12 ≤ _; rw [x_stW]; omega) (kk p e s m args below meth c F H locs ls hH hS hl)
theorem x_newO {index ci N : Nat} {C : String} {T : u_T} {t0 : Nat → FieldType} {fs : List Value} (hd : decode M.2.1 pc = .ok (.new index, 3)) (hcl : vwCl[ci]? = some (C, T, N)) (hws : ∀ w ∈ u_ws C T N, w ∈ x_tsl) (hb : x_tb T N t0) (hlk : Cond.classLink M.1.cls index C ∈ x_tsl) (hinst : Cond.instantiable C N ∈ x_tsl) (hini : Cond.initialized C ∈ x_tsl) (hfs : ∀ j, j < N → defaultValue (t0 j) = vp_V (fs.map (x_v G)) j) (hn : n + 1 ≤ x_N) (hc : cells + 1 ≤ rm.cells) (hs : slots + N ≤ rm.slots)
    (kk : x_W G M rm Qf true (n + 1) (va_up h n (.inr (ci, fs))) (cells + 1) (slots + N) lv (.ref n :: st) (pc + 3)) : x_W G M rm Qf true n h cells slots lv st pc := by
  intro p e s m args below meth c F H locs ls hH hS hl
  obtain ⟨f1, f2, f3, f4, f5, f6, f7, f8, hts, hK⟩ := id F
  have hKn := hK.1.1 ci _ hcl
  refine W.newcK f1 f2 f6 (hts _ hlk) (hts _ hinst) (hts _ hini) (g := F0 m pc ls (x_st G st)) rfl hd hc hs hKn.2.1 (hH.2.2.1 rfl) fun H1 kC hkC e1 z1 o1 => ?_
  have hz := hH.2.2.1 rfl
  have := kk p e s m args below meth c F H1 locs ls (hH.new hn (by rw [z1, hz]) (fun q hq => o1 q (by rw [← hz]; exact hq)) ⟨_, hcl, (u_born t0 hts hws hKn hkC e1 hb.1).to hfs⟩) (x_S.new hS (by rw [z1, hz]; exact Nat.le_succ _) (fun q hq => o1 q (by rw [← hz]; exact hq))) hl
  show W p _ e rm s m args below meth c H1 locs (cells + 1) (slots + N) _ (F0 m (pc + 3) ls (.ref (x_B G + n) :: x_st G st))
  rw [← x_ad_new (G := G) (Nat.lt_of_succ_le hn)]
  exact this
theorem x_newA {atype : ArrayType} {t N : Nat} {v : Int32} {a0 : vp_A} (hd : decode M.2.1 pc = .ok (.newarray atype, 2)) (ht : x_tl[t]? = some (newarray.typeOf atype)) (harr : Cond.arrayClass (newarray.typeOf atype) ∈ x_tsl) (hv : ¬ v < 0) (hN : v.toNatClampNeg = N) (hby : N * componentBytes (newarray.typeOf atype) ≤ 536870912) (ha : ∀ c : ClassId, vp_cell c (x_a G a0) = arrV c N (fun _ => defaultValue (newarray.typeOf atype))) (hn : n + 1 ≤ x_N) (hc : cells + 1 ≤ rm.cells) (hs : slots + N ≤ rm.slots)
    (kk : x_W G M rm Qf true (n + 1) (va_up h n (.inl (t, a0))) (cells + 1) (slots + N) lv (.ref n :: st) (pc + 2)) : x_W G M rm Qf true n h cells slots lv (.int v :: st) pc := by
  intro p e s m args below meth c F H locs ls hH hS hl
  obtain ⟨f1, f2, f3, f4, f5, f6, f7, f8, hts, hK⟩ := id F
  refine va_newaK f1 f2 (hts _ harr) (g := F0 m pc ls (.int v :: x_st G st)) rfl hd rfl hv hN hby hc hs (hH.2.2.1 rfl) fun H1 cA e1 z1 o1 hAr hNm => ?_
  have hz := hH.2.2.1 rfl
  have hra := (hK.1.2 t _ (x_ty_at (G := G) ht)).2
  have hra2 : s.vm.findClass ("[" ++ (newarray.typeOf atype).toString) = some (x_c G t) := by cases atype <;> exact hra
  cases hNm.symm.trans hra2
  have := kk p e s m args below meth c F H1 locs ls (hH.new hn (by rw [z1, hz]) (fun q hq => o1 q (by rw [← hz]; exact hq)) (by show H1[_]? = some (vp_cell _ _); rw [ha]; exact e1)) (x_S.new hS (by rw [z1, hz]; exact Nat.le_succ _) (fun q hq => o1 q (by rw [← hz]; exact hq))) hl
  show W p _ e rm s m args below meth c H1 locs (cells + 1) (slots + N) _ (F0 m (pc + 2) ls (.ref (x_B G + n) :: x_st G st))
  rw [← x_ad_new (G := G) (Nat.lt_of_succ_le hn)]
  exact this
theorem x_newQ {index t N : Nat} {v : Int32} {C : String} (hd : decode M.2.1 pc = .ok (.anewarray index, 3)) (ht : x_tl[t]? = some (.object C)) (hao : Cond.arrayOver (.object C) ∈ lw_tbl) (hlk : Cond.classLink M.1.cls index C ∈ x_tsl) (hv : ¬ v < 0) (hN : v.toNatClampNeg = N) (hby : N * 4 ≤ 536870912) (hn : n + 1 ≤ x_N) (hc : cells + 1 ≤ rm.cells) (hs : slots + N ≤ rm.slots)
    (kk : x_W G M rm Qf true (n + 1) (va_up h n (.inl (t, N, .inr (.inr (.inr (.inr (fun _ => none))))))) (cells + 1) (slots + N) lv (.ref n :: st) (pc + 3)) : x_W G M rm Qf true n h cells slots lv (.int v :: st) pc := by
  intro p e s m args below meth c F H locs ls hH hS hl
  obtain ⟨f1, f2, f3, f4, f5, f6, f7, f8, hts, hK⟩ := id F
  subst hN
  refine W.anew f1 f2 f6 (hts _ hlk) (x_aoO hK.2.1 hao) (g := F0 m pc ls (.int v :: x_st G st)) rfl hd rfl hv hby hc hs fun cA kA comp g1 g2 g3 g4 => ?_
  obtain ⟨kA', comp', r1, r2, r3, r4⟩ := (hK.1.2 t _ (x_ty_at (G := G) ht)).2
  cases g1.symm.trans r4
  have hz := hH.2.2.1 rfl
  generalize hH1 : H.push ({ cls := x_c G t, slots := Array.replicate v.toNatClampNeg .null, vm := .none } : Cell) = H1
  have z1 : H1.size = H.size + 1 := by rw [← hH1, Array.size_push]
  have e1 : H1[H.size]? = some (arrV (x_c G t) v.toNatClampNeg (fun _ => .null)) := by rw [← hH1, Array.getElem?_push_size, ← arrV_new]
  have o1 : ∀ q : Nat, q < H.size → H1[q]? = H[q]? := fun q hq => by rw [← hH1, Array.getElem?_push, if_neg (Nat.ne_of_lt hq)]
  rw [hz] at e1
  have := kk p e s m args below meth c F H1 locs ls (hH.new hn z1 o1 e1) (x_S.new hS (by rw [z1]; exact Nat.le_succ _) o1) hl
  show W p _ e rm s m args below meth c H1 locs (cells + 1) _ _ (F0 m (pc + 3) ls (.ref H.size :: x_st G st))
  rw [hz, ← x_ad_new (G := G) (Nat.lt_of_succ_le hn)]
  exact this
theorem x_aast {t a b N ci Nf : Nat} {C : String} {T : u_T} {fs : List Value} {f : Nat → Option Nat} {i : Int32} (hd : decode M.2.1 pc = .ok (.aastore, 1)) (ht : x_tl[t]? = some (.object C)) (ha : a < n) (hc : h a = .inl (t, N, .inr (.inr (.inr (.inr f))))) (hb : b < n) (hv : h b = .inr (ci, fs)) (hcl : vwCl[ci]? = some (C, T, Nf)) (hin : vp_in i N)
    (kk : x_W G M rm Qf ex n (va_up h a (.inl (t, N, .inr (.inr (.inr (.inr (va_up f i.toNatClampNeg (some b)))))))) cells slots lv st (pc + 1)) : x_W G M rm Qf ex n h cells slots lv (.ref b :: .int i :: .ref a :: st) pc := by
  intro p e s m args below meth c F H locs ls hH hS hl
  obtain ⟨f1, f2, f3, f4, f5, f6, f7, f8, hts, hK⟩ := id F
  show W p _ e rm s m args below meth c H locs cells slots _ (F0 m pc ls (.ref (x_ad G b) :: .int i :: .ref (x_ad G a) :: x_st G st))
  rw [x_ad_new (Nat.lt_of_lt_of_le ha hH.1), x_ad_new (Nat.lt_of_lt_of_le hb hH.1)]
  have hlt : i.toNatClampNeg < N := Nat.not_le.mp fun q => hin (Or.inr q)
  have h0 : ¬ i < 0 := fun q => hin (Or.inl q)
  obtain ⟨r', hr', cellV, g1, g2, g3, -⟩ := (hH.at hb hv) 0 _ rfl
  have hcls := (hK.1.1 ci _ hcl).2
  obtain ⟨kA, comp, k1, k2, k3, -⟩ := (hK.1.2 t _ (x_ty_at (G := G) ht)).2
  have hcomp : comp = (x_D G).1 ci := Option.some.inj (k3.symm.trans hcls.1)
  subst hcomp
  obtain ⟨kC, hkC, -⟩ := hcls.2
  refine W.aast f1 f2 ((hH.at ha hc) 0 _ rfl) (fun q h => by cases h) (fun h => by cases h) k1 k2 rfl hkC ⟨h0, by show _ < (arrV _ _ _).slots.size; rw [arrV_size]; exact hlt⟩ g1 (fun q h => by rw [g3] at h; cases h) (by rw [g2]; exact hkC) (by rw [g2]; exact va_assign hcls) rfl rfl hd fun H1 e1 z oq => ?_
  refine kk p e s m args below meth c F H1 _ ls (hH.upd z oq ?_) (x_S.put hS z oq) hl
  show H1[x_B G + a]? = some (vp_cell _ (N, .inr (.inr (.inr (.inr (fun j => (va_up f i.toNatClampNeg (some b) j).map (x_ad G)))))))
  rw [e1]
  show some ((arrV _ _ _).setSlot _ _) = _
  rw [vp_cell_q, arrV_store]
  congr 2
  funext q
  by_cases hq : q = i.toNatClampNeg
  · subst hq
    simp [updV, va_up, va_rf, x_ad_new (Nat.lt_of_lt_of_le hb hH.1)]
  · simp [updV, va_up, hq]
theorem x_callIN {M2 : x_M} {rm2 : Room} {As : List Value} {Po : x_P} {index b : Nat} {host : String} (hd : decode M.2.1 pc = .ok (.invokespecial index, 3)) (hR : x_R G M2 rm2 ex (.ref b :: As) n h Po) (hM : x_cd M2) (hM0 : Cond.code M2.1 M2.2.1 M2.2.2.1 none ∈ x_tsl) (hnm : M2.1.name = "<init>") (hlk : Cond.methodLinkNest M.1.cls index M2.1 host ∈ lw_tbl) (hii : Cond.instanceMethod M2.1 ∈ x_tsl) (hp : x_pl M2) (hn : (parseMethodDescriptor M2.1.desc).map (fun d => d.parameters.length) = some As.length)
    (hrm : x_rm rm rm2 M2) (hce : cells + rm2.cells ≤ rm.cells) (hsl : slots + rm2.slots ≤ rm.slots) (hal : (lg_sl (.ref b :: As)).length ≤ M2.2.2.1) (hw : (st.map fun v => v.category).sum ≤ 8) (hst : stk = As.reverse ++ .ref b :: st)
    (kr : ∀ v n' h', Po (.inl v) n' h' → x_W G M rm Qf ex n' h' (cells + rm2.cells) (slots + rm2.slots) lv (v.toList ++ st) (pc + 3))
    (kt : ∀ Y n' h', Po (.inr Y) n' h' → x_WT G M rm Qf ex n' h' (cells + rm2.cells) (slots + rm2.slots) lv Y pc) : x_W G M rm Qf ex n h cells slots lv stk pc := by
  intro p e s m args below meth c F H locs ls hH hS hl T hT X
  subst hT; subst hst
  obtain ⟨f1, f2, f3, f4, f5, f6, f7, f8, hts, hK⟩ := id F
  have hpl : e.platform.magicAccessors = ({} : Platform).magicAccessors := by rw [X.admits.platform]
  obtain ⟨mk, methM, cM, kP, vm₁, hnamed, hmethM, hcodeM, -, hlocalsM, -, hkP, -, hW₁, hstep⟩ := Steps.initColdArgsNest (e := e) X.here f1 X.warmed hpl f6 hnm hp (x_nM hK.2.1 hlk) (hts _ hii) (hts _ hM0) (f := F0 m pc ls (x_st G (As.reverse ++ .ref b :: st))) rfl (a := x_ad G b) (argsL := As.map (x_v G)) (rest := x_st G st)
    (fun sig z => by rw [z] at hn; rw [List.length_map]; exact (Option.some.inj hn).symm) (by show x_st G (As.reverse ++ .ref b :: st) = _; rw [x_stA]; rfl) (by rw [f2]; exact hd)
  obtain ⟨t, a1, b1⟩ := x_goes hR hM hrm hce hsl hal hw kr kt F (T := T.setVm vm₁) hH hS hl (X.noted hW₁) hd hnamed
  exact ⟨t, hstep _ a1, b1⟩
theorem x_mna {index : Nat} (hd : decode M.2.1 pc = .ok (.multianewarray index 2, 4)) (hlk : Cond.classLink M.1.cls index "[[I" ∈ x_tsl) (harr : Cond.arrayClass .int ∈ x_tsl) (hn : n + 5 ≤ x_N) (hc : cells + 5 ≤ rm.cells) (hs : slots + 4004 ≤ rm.slots)
    (kk : x_W G M rm Qf true (n + 5) (x_h5 h n) (cells + 5) (slots + 4004) lv (.ref n :: st) (pc + 4)) : x_W G M rm Qf true n h cells slots lv (.int 1000 :: .int 4 :: st) pc := by
  intro p e s m args below meth c F H locs ls hH hS hl T hT X
  obtain ⟨f1, f2, f3, f4, f5, f6, f7, f8, hts, hK⟩ := id F
  subst hT
  have hz := hH.2.2.1 rfl
  have r6 : s.vm.findClass "[[I" = some (x_c G 6) := (hK.1.2 6 _ (x_ty_at (G := G) (t := 6) rfl)).2
  have r0 : s.vm.findClass "[I" = some (x_c G 0) := (hK.1.2 0 _ (x_ty_at (G := G) (t := 0) rfl)).2
  obtain ⟨comp, cA, kA, a1, -, a2, a3, a4⟩ := arrayOverA_spec (x_aoA hK.2.1 wr_ao6 (args := args))
  obtain ⟨cI, kI, cc, b1, b2, b3⟩ := Cond.arrayClass_spec (hts _ harr)
  have a1' : s.vm.findClass "[I" = some comp := a1
  have a4' : s.vm.findClass "[[I" = some cA := a4
  have b1' : s.vm.findClass "[I" = some cI := b1
  cases a1'.symm.trans r0
  cases a4'.symm.trans r6
  cases b1'.symm.trans r0
  obtain ⟨vm₁, -, X', step⟩ := y_mna X f1 f6 (hts _ hlk) r6 a2 a3 b2 b3 (g := F0 m pc ls (.int 1000 :: .int 4 :: x_st G st)) rfl (by rw [f2]; exact hd) rfl hc hs
  have g1 := y_U_sz (U := T.setVm vm₁) (cA := x_c G 6) (cI := x_c G 0) 4
  have g2 := y_U_at (U := T.setVm vm₁) (cA := x_c G 6) (cI := x_c G 0) 4
  have hold : ∀ q : Nat, q < T.heap.size → (y_U (T.setVm vm₁) (x_c G 6) (x_c G 0) 4).heap[q]? = T.heap[q]? := fun q hq => y_U_old (U := T.setVm vm₁) hq 4
  have hrow : ∀ j : Nat, j < 4 → (y_U (T.setVm vm₁) (x_c G 6) (x_c G 0) 4).heap[T.heap.size + 1 + j]? = some (vp_cell (x_c G 0) (1000, .inl (fun _ => 0))) := fun j hj => by
    refine (y_U_row (U := T.setVm vm₁) 4 hj).trans ?_
    rw [vp_cell_i, arrV_new]
  generalize y_U (T.setVm vm₁) (x_c G 6) (x_c G 0) 4 = V at X' step g1 g2 hold hrow
  have g1' : V.heap.size = T.heap.size + 1 + 4 := g1
  have g2' : V.heap[T.heap.size]? = some (vp_cell (x_c G 6) (4, .inr (.inr (.inr (.inr (fun i => if i < 4 then some (T.heap.size + 1 + i) else none)))))) := by
    refine g2.trans ?_
    rw [vp_cell_q]
    exact congrArg some (x_outer (x_c G 6) T.heap.size 4)
  have hHV : x_H G true (n + 5) (x_h5 h n) V.heap := by
    refine ⟨hn, by omega, fun _ => by omega, fun k hk => ?_, fun q cell q1 q2 => ?_⟩
    · by_cases e1 : k = n
      · subst e1
        show va_at (x_D G) vwCl (x_B G + k, x_e G (x_h5 h k k)) V.heap
        rw [show x_h5 h k k = .inl (6, 4, .inr (.inr (.inr (.inr (fun i => if i < 4 then some (k + 1 + i) else none))))) from if_pos rfl]
        show V.heap[x_B G + k]? = some (vp_cell (x_c G 6) (4, .inr (.inr (.inr (.inr (fun j => (if j < 4 then some (k + 1 + j) else none).map (x_ad G)))))))
        rw [← hz, g2']
        refine congrArg (fun f : Nat → Option Nat => some (vp_cell (x_c G 6) (4, .inr (.inr (.inr (.inr f)))))) (funext fun j => ?_)
        by_cases hj : j < 4
        · rw [if_pos hj, if_pos hj]
          show some _ = some (x_ad G (k + 1 + j))
          rw [x_ad_new (by have := hn; unfold x_N at *; omega), hz]
          congr 1
          omega
        · rw [if_neg hj, if_neg hj]; rfl
      · by_cases e2 : n < k
        · rw [show x_h5 h n k = .inl (0, 1000, .inl (fun _ => 0)) from (if_neg e1).trans (if_pos ⟨e2, hk⟩)]
          show V.heap[x_B G + k]? = some (vp_cell (x_c G 0) (1000, .inl (fun _ => 0)))
          have := hrow (k - n - 1) (by omega)
          rw [hz, show x_B G + n + 1 + (k - n - 1) = x_B G + k by omega] at this
          exact this
        · rw [show x_h5 h n k = h k from (if_neg e1).trans (if_neg (fun z => e2 z.1))]
          exact (hH.2.2.2.1 k (by omega)).kept (hold _ (by show x_B G + k < _; omega))
    · have hlt := (Array.getElem?_eq_some_iff.mp q2).1
      by_cases e1 : q < T.heap.size
      · rw [hold q e1] at q2; exact hH.2.2.2.2 q cell q1 q2
      · by_cases e2 : q = T.heap.size
        · subst e2
          rw [g2'] at q2; cases q2; rfl
        · have := hrow (q - T.heap.size - 1) (by omega)
          rw [show T.heap.size + 1 + (q - T.heap.size - 1) = q by omega] at this
          rw [this] at q2; cases q2; rfl
  obtain ⟨t, a1, b1⟩ := kk p e s m args below meth c F V.heap locs ls hHV (x_S.new hS (by omega) hold) hl V rfl X'
  refine ⟨t, step t ?_, b1⟩
  have e0 : x_st G (.ref n :: st) = .ref T.heap.size :: x_st G st := by
    show Value.ref (x_ad G n) :: _ = _
    rw [x_ad_new (by unfold x_N at *; omega), hz]; rfl
  rw [e0] at a1
  exact a1
end XN
