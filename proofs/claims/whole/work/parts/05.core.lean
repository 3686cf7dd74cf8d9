/-! ===== THE CORE: a frame of a method over an abstract heap. An abstract reference is a place: k < x_N is the k-th new cell, x_N + i the i-th constant.
Needs: vwCl (the classes), x_tl (the types of array elements), x_tsl (the words), x_G, x_Z (what is known of the start's statics). ===== -/
abbrev x_l (G : x_G) : Launch := G.1
abbrev x_D (G : x_G) : va_G := G.2.1
abbrev x_c (G : x_G) : Nat → ClassId := G.2.2.1
abbrev x_B (G : x_G) : Nat := G.2.2.2.1.1.heap.size
abbrev x_C (G : x_G) : Nat → Nat := G.2.2.2.2
def x_ty (G : x_G) : List (ClassId × FieldType) := x_tl.mapIdx (fun i t => (x_c G i, t))
abbrev x_v (G : x_G) : Value → Value := x_v0 G
def x_a (G : x_G) (a : vp_A) : vp_A := (a.1, match a.2 with
  | .inl f => .inl f
  | .inr (.inl f) => .inr (.inl f)
  | .inr (.inr (.inl f)) => .inr (.inr (.inl f))
  | .inr (.inr (.inr (.inl f))) => .inr (.inr (.inr (.inl f)))
  | .inr (.inr (.inr (.inr f))) => .inr (.inr (.inr (.inr (fun j => (f j).map (x_ad G))))))
def x_e (G : x_G) : va_E → va_E
  | .inl (t, a) => .inl (x_c G t, x_a G a)
  | .inr (ci, fs) => .inr (ci, fs.map (x_v G))
/-- the cells that a method may change -/
def x_A (G : x_G) : Nat → Prop := fun q => x_B G ≤ q
abbrev x_h : Type := Nat → va_E
/-- no new cell holds statics -/
def x_ns (G : x_G) (H : Heap) : Prop := ∀ (q : Nat) (cell : Cell), x_B G ≤ q → H[q]? = some cell → cell.vm.isStatics = false
/-- the heap H holds the n places of h; if ex, nothing else is new -/
def x_H (G : x_G) (ex : Bool) (n : Nat) (h : x_h) (H : Heap) : Prop :=
  n ≤ x_N ∧ x_B G + n ≤ H.size ∧ (ex = true → H.size = x_B G + n) ∧ (∀ k, k < n → va_at (x_D G) vwCl (x_B G + k, x_e G (h k)) H) ∧ x_ns G H
def x_K (G : x_G) (s : State) : Prop := va_K (x_D G) vwCl (x_ty G) s ∧ x_Z G s ∧ x_B G ≤ s.heap.size ∧ x_ns G s.heap
/-- a method: its name, its bytes, its locals, what it returns, its handlers -/
abbrev x_M : Type := MethodName × ByteArray × Nat × Option FieldType × List (Nat × Nat × Nat × Nat)
def x_F (G : x_G) (M : x_M) (p : Program) (s : State) (m : MethodId) (args : Array Value) (meth : Method) (c : Code) : Prop :=
  p.tables.exec = Jvm.exec ∧ c.code = M.2.1 ∧ c.maxLocals = M.2.2.1 ∧ meth.sig.returnType = M.2.2.2.1 ∧
  c.exceptionTable.toList.map (fun h => (h.startPc, h.endPc, h.handlerPc, h.catchType)) = M.2.2.2.2 ∧
  s.vm.findClass M.1.cls = some m.cls ∧ meth.locks = false ∧ meth.name = M.1.name ∧ (∀ w ∈ x_tsl, w.before args s = true) ∧ x_K G s
def x_lv (G : x_G) (lv : List (Nat × Value)) : List (Nat × Value) := lv.map (fun q => (q.1, x_v G q.2))
def x_st (G : x_G) (st : List Value) : List Value := st.map (x_v G)
/-- the frame at pc, locals lv, stack st, heap h, comes to a state with Qf -/
def x_W (G : x_G) (M : x_M) (rm : Room) (Qf : List Frame → Array Value → State → State → Prop) (ex : Bool) (n : Nat) (h : x_h) (cells slots : Nat) (lv : List (Nat × Value)) (st : List Value) (pc : Nat) : Prop :=
  ∀ (p : Program) (e : Env) (s : State) (m : MethodId) (args : Array Value) (below : List Frame) (meth : Method) (c : Code), x_F G M p s m args meth c →
    ∀ (H : Heap) (locs : List Loc) (ls : Array Slot), x_H G ex n h H → va_S (x_A G) s.heap H locs → lv_has ls M.2.2.1 (x_lv G lv) →
    W p (x_l G) e rm s m args below meth c H locs cells slots (Qf below args s) (F0 m pc ls (x_st G st))
/-- what a method answers or throws, and the heap behind it -/
abbrev x_P : Type := (Option Value ⊕ String) → Nat → x_h → Prop
def x_Q (G : x_G) (rm : Room) (ex : Bool) (Po : x_P) (below : List Frame) (_ : Array Value) (s t : State) : Prop :=
  t.status = .running ∧ s.WarmedH t.vm ∧ (∃ L, s.sameButNew ({ t with vm := s.vm } : State) L rm.cells rm.slots ∧ ∀ q ∈ L, x_A G q.base) ∧ va_F (x_A G) s t ∧
  ((∃ v n h, Ended t below (.returned (v.map (x_v G))) ∧ Po (.inl v) n h ∧ x_H G ex n h t.heap) ∨
   (∃ a X n h cell, Ended t below (.threw a) ∧ Po (.inr X) n h ∧ x_H G ex n h t.heap ∧ t.heap[a]? = some cell ∧ cell.vm = .none ∧ s.vm.findClass X = some cell.cls))
/-- the contract: with these arguments, in this heap, the method ends, and Po -/
def x_R (G : x_G) (M : x_M) (rm : Room) (ex : Bool) (args : List Value) (n : Nat) (h : x_h) (Po : x_P) : Prop :=
  x_W G M rm (x_Q G rm ex Po) ex n h 0 0 (lv_args 0 args) [] 0
-- small rows
theorem x_ad_new {G : x_G} {k : Nat} (h : k < x_N) : x_ad G k = x_B G + k := if_pos h
theorem x_cat {G : x_G} {v : Value} : (x_v G v).category = v.category := by cases v <;> rfl
theorem x_lv_at {G : x_G} {lv : List (Nat × Value)} {ls : Array Slot} {nL i : Nat} {v : Value} (hl : lv_has ls nL (x_lv G lv)) (h : (lv.find? (fun q => q.1 == i)) = some (i, v)) : ls[i]? = some (.val (x_v G v)) :=
  hl.2.2 (i, x_v G v) (List.mem_map.mpr ⟨(i, v), List.mem_of_find?_eq_some h, rfl⟩)
def x_ins : List (Nat × Value) → Nat → Value → List (Nat × Value)
  | [], i, v => [(i, v)]
  | q :: r, i, v => if i < q.1 then (i, v) :: q :: r else q :: x_ins r i v
theorem x_ins_mem : ∀ (l : List (Nat × Value)) (i : Nat) (v : Value) (q : Nat × Value), q ∈ x_ins l i v → q = (i, v) ∨ q ∈ l
  | [], i, v, q, h => Or.inl (List.mem_singleton.mp h)
  | a :: r, i, v, q, h => by
    unfold x_ins at h
    by_cases c : i < a.1
    · rw [if_pos c] at h
      rcases List.mem_cons.mp h with h | h
      · exact Or.inl h
      · exact Or.inr h
    · rw [if_neg c] at h
      rcases List.mem_cons.mp h with h | h
      · exact Or.inr (by rw [h]; exact List.mem_cons_self)
      · rcases x_ins_mem r i v q h with h | h
        · exact Or.inl h
        · exact Or.inr (List.mem_cons_of_mem _ h)
def x_put (lv : List (Nat × Value)) (i : Nat) (v : Value) : List (Nat × Value) := x_ins (lv.filter (fun q => !(q.1 == i) && !(q.1 + 1 == i && q.2.category == 2))) i v
def x_putL (lv : List (Nat × Value)) (i : Nat) (v : Value) : List (Nat × Value) := x_ins (lv.filter (fun q => !(q.1 == i) && (!(q.1 == i + 1) && !(q.1 + 1 == i && q.2.category == 2)))) i v
theorem x_put_has {G : x_G} {lv lv2 : List (Nat × Value)} {i nL : Nat} {v w : Value} {ls : Array Slot} (hl : lv_has ls nL ((i, w) :: (x_lv G lv).filter (fun q => !(q.1 == i) && !(q.1 + 1 == i && q.2.category == 2)))) (hq : x_put lv i v = lv2) (hv : x_v G v = w) : lv_has ls nL (x_lv G lv2) := by
  refine ⟨hl.1, hl.2.1, fun q h => hl.2.2 q ?_⟩
  subst hq; subst hv
  obtain ⟨r, hr, rfl⟩ := List.mem_map.mp h
  rcases x_ins_mem _ _ _ _ hr with h | h
  · subst h; exact List.mem_cons_self
  · obtain ⟨h1, h2⟩ := List.mem_filter.mp h
    refine List.mem_cons_of_mem _ (List.mem_filter.mpr ⟨List.mem_map.mpr ⟨r, h1, rfl⟩, ?_⟩)
    rw [x_cat]; exact h2
theorem x_putL_has {G : x_G} {lv lv2 : List (Nat × Value)} {i nL : Nat} {v w : Value} {ls : Array Slot} (hl : lv_has ls nL ((i, w) :: (x_lv G lv).filter (fun q => !(q.1 == i) && (!(q.1 == i + 1) && !(q.1 + 1 == i && q.2.category == 2))))) (hq : x_putL lv i v = lv2) (hv : x_v G v = w) : lv_has ls nL (x_lv G lv2) := by
  refine ⟨hl.1, hl.2.1, fun q h => hl.2.2 q ?_⟩
  subst hq; subst hv
  obtain ⟨r, hr, rfl⟩ := List.mem_map.mp h
  rcases x_ins_mem _ _ _ _ hr with h | h
  · subst h; exact List.mem_cons_self
  · obtain ⟨h1, h2⟩ := List.mem_filter.mp h
    refine List.mem_cons_of_mem _ (List.mem_filter.mpr ⟨List.mem_map.mpr ⟨r, h1, rfl⟩, ?_⟩)
    rw [x_cat]; exact h2
theorem x_ty_at {G : x_G} {t : Nat} {ty : FieldType} (h : x_tl[t]? = some ty) : (x_ty G)[t]? = some (x_c G t, ty) := by
  unfold x_ty
  rw [List.getElem?_mapIdx, h]
  rfl
theorem x_at_vm {D : va_G} {cl : List vw_C} {a : Nat} {e : va_E} {H : Heap} {cell : Cell} (h : va_at D cl (a, e) H) (hc : H[a]? = some cell) : cell.vm.isStatics = false := by
  cases e with
  | inl x =>
    have h1 : H[a]? = some (vp_cell x.1 x.2) := h
    rw [hc] at h1
    cases h1
    obtain ⟨c, n, f | f | f | f | f⟩ := x <;> rfl
  | inr o =>
    obtain ⟨r, -, cell', q1, -, q3, -⟩ := h
    have q1' : H[a]? = some cell' := q1
    rw [hc] at q1'
    cases q1'
    rw [q3]; rfl
theorem x_H.at {G : x_G} {ex : Bool} {n : Nat} {h : x_h} {H : Heap} (hH : x_H G ex n h H) {k : Nat} (hk : k < n) {c : va_E} (hc : h k = c) : va_P (x_D G) vwCl [(x_B G + k, x_e G c)] H := by
  intro i q hq
  subst hc
  cases i with
  | zero => cases hq; exact hH.2.2.2.1 k hk
  | succ i => simp at hq
theorem x_H.upd {G : x_G} {ex : Bool} {n : Nat} {h : x_h} {H H1 : Heap} (hH : x_H G ex n h H) {k : Nat} {c : va_E} (z : H1.size = H.size) (oq : ∀ q : Nat, q ≠ x_B G + k → H1[q]? = H[q]?) (hc : va_at (x_D G) vwCl (x_B G + k, x_e G c) H1) : x_H G ex n (va_up h k c) H1 := by
  refine ⟨hH.1, by rw [z]; exact hH.2.1, fun x => by rw [z]; exact hH.2.2.1 x, fun j hj => ?_, fun q cell h1 h2 => ?_⟩
  · by_cases e : j = k
    · subst e
      rw [va_up_self]; exact hc
    · rw [va_up_ne _ _ e]
      exact (hH.2.2.2.1 j hj).kept (oq _ (by show x_B G + j ≠ _; omega))
  · by_cases e : q = x_B G + k
    · subst e; exact x_at_vm hc h2
    · rw [oq q e] at h2; exact hH.2.2.2.2 q cell h1 h2
theorem x_H.new {G : x_G} {n : Nat} {h : x_h} {H H1 : Heap} (hH : x_H G true n h H) {c : va_E} (hn : n + 1 ≤ x_N) (z : H1.size = H.size + 1) (oq : ∀ q : Nat, q < H.size → H1[q]? = H[q]?) (hc : va_at (x_D G) vwCl (x_B G + n, x_e G c) H1) : x_H G true (n + 1) (va_up h n c) H1 := by
  have z0 := hH.2.2.1 rfl
  refine ⟨hn, by omega, fun _ => by omega, fun j hj => ?_, fun q cell h1 h2 => ?_⟩
  · by_cases e : j = n
    · subst e
      rw [va_up_self]; exact hc
    · rw [va_up_ne _ _ e]
      exact (hH.2.2.2.1 j (by omega)).kept (oq _ (by show x_B G + j < _; omega))
  · by_cases e : q = x_B G + n
    · subst e; exact x_at_vm hc h2
    · have hlt : q < H1.size := (Array.getElem?_eq_some_iff.mp h2).1
      rw [oq q (by omega)] at h2; exact hH.2.2.2.2 q cell h1 h2
theorem x_S.put {G : x_G} {H0 H H1 : Heap} {locs : List Loc} {k i : Nat} (hS : va_S (x_A G) H0 H locs) (z : H1.size = H.size) (oq : ∀ q : Nat, q ≠ x_B G + k → H1[q]? = H[q]?) : va_S (x_A G) H0 H1 (locs ++ [⟨x_B G + k, i⟩]) := by
  refine ⟨by rw [z]; exact hS.1, fun q h1 h2 => ?_, fun q hq => ?_⟩
  · rw [oq q (fun e => h2 (by rw [e]; exact Nat.le_add_right _ _))]; exact hS.2.1 q h1 h2
  · rcases List.mem_append.mp hq with h | h
    · exact hS.2.2 q h
    · rw [List.mem_singleton.mp h]; exact Nat.le_add_right _ _
theorem x_S.new {G : x_G} {H0 H H1 : Heap} {locs : List Loc} (hS : va_S (x_A G) H0 H locs) (z : H.size ≤ H1.size) (oq : ∀ q : Nat, q < H.size → H1[q]? = H[q]?) : va_S (x_A G) H0 H1 locs :=
  ⟨Nat.le_trans hS.1 z, fun q h1 h2 => (oq q (Nat.lt_of_lt_of_le h1 hS.1)).trans (hS.2.1 q h1 h2), hS.2.2⟩
