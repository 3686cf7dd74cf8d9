/-! a frame begun anew; an exception is made and thrown -/
theorem wx_sup : Cond.superclass "java/lang/Throwable" "java/lang/Object" ∈ x_tsl := x_t4 (List.mem_of_getElem? (i := 105) rfl) rfl
theorem wx_dR : Cond.declares ⟨"java/lang/RuntimeException", "<init>", "(Ljava/lang/String;)V"⟩ ∈ lw_tbl := x_l4 (List.mem_of_getElem? (i := 87) rfl)
theorem wx_dE : Cond.declares ⟨"java/lang/Exception", "<init>", "(Ljava/lang/String;)V"⟩ ∈ lw_tbl := x_l4 (List.mem_of_getElem? (i := 89) rfl)
theorem wx_dT : Cond.declares ⟨"java/lang/Throwable", "<init>", "(Ljava/lang/String;)V"⟩ ∈ lw_tbl := x_l4 (List.mem_of_getElem? (i := 91) rfl)
theorem wx_sync : Cond.codeSync ⟨"java/lang/Throwable", "fillInStackTrace", "()Ljava/lang/Throwable;"⟩ prog_25_method_18_code 1 (some (.object "java/lang/Throwable")) ∈ x_tsl := x_t4 (List.mem_of_getElem? (i := 117) rfl) rfl
theorem wx_cS : Cond.castable "java/lang/IllegalStateException" "java/lang/IllegalStateException" ∈ lw_tbl := x_l4 (List.mem_of_getElem? (i := 85) rfl)
theorem wx_cA : Cond.castable "java/lang/IllegalArgumentException" "java/lang/IllegalArgumentException" ∈ lw_tbl := x_l4 (List.mem_of_getElem? (i := 166) rfl)
theorem x_re {p : Program} {l : Launch} {e : Env} {R R' : Room} {s : State} {m : MethodId} {args : Array Value} {below : List Frame} {meth : Method} {c : Code} {T : State} {locs : List Loc} {cells slots : Nat} (X : Stand p l e R s m args below meth c T locs cells slots) (h1 : R'.frames ≤ R.frames) (h2 : R'.locals ≤ R.locals) (h3 : cells + R'.cells ≤ R.cells) (h4 : slots + R'.slots ≤ R.slots) :
    Stand p l e R' (T.setFrames (.invoking m args :: below)) m args below meth c T [] 0 0 := by
  obtain ⟨g0, hg0⟩ := X.frames_eq
  have hcur := State.cur_lt_of_frames hg0
  have hF : (T.setFrames (.invoking m args :: below)).frames = .invoking m args :: below := State.frames_setFrames _ hcur
  obtain ⟨t, ht, -⟩ := State.frames_cons hF
  obtain ⟨t0, ht0, -⟩ := State.frames_cons hg0
  refine ⟨X.admits, X.cas, X.clock, hF, ?_, ?_, X.method', X.code, X.here, X.tail, State.WarmedH.refl _, by rw [State.stackLimits_setFrames], by rw [State.stackBytes_setFrames], ?_⟩
  · obtain ⟨r1, r2, r3, r4⟩ := State.hasRoom_stack X.room
    have r5 := State.hasRoom_real X.room
    have h := X.room
    have z1 := X.heapSize
    have z2 := X.used
    have z3 := X.book
    simp only [State.hasRoom, Bool.and_eq_true, decide_eq_true_eq] at h
    rw [State.localsInUse_invoking X.frames X.method X.code] at r3 r4 r5
    rw [X.frames, List.length_cons] at r1 r2
    have hU := State.localsInUse_invoking hF (meth := meth) (c := c) X.method' X.code
    simp only [State.hasRoom, Bool.and_eq_true, decide_eq_true_eq, hF, hU, List.length_cons, State.stackLimits_setFrames, State.stackBytes_setFrames, X.limits, X.bytes]
    refine ⟨⟨⟨⟨by omega, by omega, by omega, by omega, by omega, h.1.1.1.2.2.2.2.2⟩, ?_⟩, ?_⟩, z3⟩
    · have := h.1.1.2
      show T.heap.size + R'.cells ≤ _
      omega
    · have := h.1.2
      show T.slotsUsed + R'.slots ≤ _
      omega
  · have hh := X.hears
    have e1 : ∀ k, (T.setFrames (.invoking m args :: below)).code? k = s.code? k := fun k => by
      rw [State.code?_eq, State.code?_eq]
      show (T.vm.method? k).bind _ = _
      rw [X.warmed.alike.method?]
    have e2 : ∀ k, (T.setFrames (.invoking m args :: below)).vm.method? k = s.vm.method? k := fun k => by
      show T.vm.method? k = _
      rw [X.warmed.alike.method?]
    generalize T.setFrames (.invoking m args :: below) = U at e1 e2
    rcases below with _ | ⟨y, r⟩
    · simp only [State.hears, e2] at hh ⊢; exact hh
    · cases y <;> simp only [State.hears, e1, e2] at hh ⊢ <;> exact hh
  · have h := (State.sameButNew.refl _ ht).setFrames T.frames (State.cur_lt_of_frames hF)
    rw [State.setFrames_setFrames, State.setFrames_self ht0] at h
    exact h
theorem x_lays {s0 s : State} {a0 a1 : Array Value} {O f d : String} (h : (Cond.laysStatic O f d).before a0 s0 = true) (hW : s0.WarmedH s.vm) (hq : ∀ q : Nat, q < s0.heap.size → s.heap[q]? = s0.heap[q]?) : (Cond.laysStatic O f d).before a1 s = true := by
  obtain ⟨c, k, i, fd, a, cell, hc, hi, hst, ha, hcell, hs, hcls, hlt, hty⟩ := Cond.laysStatic_spec h
  obtain ⟨k', hi', hek⟩ := State.fieldFound?_setVm hW.alike hi
  have hi2 : s.fieldFound? O f d = some (c, k', i, fd) := hi'
  exact Cond.laysStatic_of (s := s) (by rw [hW.alike.findClass]; exact hc) hi2 hst (by rw [hek]; exact ha) ((hq a (Array.getElem?_eq_some_iff.mp hcell).1).trans hcell) hs hcls hlt (by rw [hek]; exact hty)
theorem x_isr {s0 s : State} {a0 a1 : Array Value} {O f d : String} (hl : (Cond.laysStatic O f d).before a0 s0 = true) (h : (Cond.isRef (.static O f d)).before a0 s0 = true) (hW : s0.WarmedH s.vm) (hq : ∀ q : Nat, q < s0.heap.size → s.heap[q]? = s0.heap[q]?) : (Cond.isRef (.static O f d)).before a1 s = true := by
  obtain ⟨c, k, i, fd, a, cell, hc, hi, hst, ha, hcell, hs, hcls, hlt, hty⟩ := Cond.laysStatic_spec hl
  obtain ⟨k', hi', hek⟩ := State.fieldFound?_setVm hW.alike hi
  have hi2 : s.fieldFound? O f d = some (c, k', i, fd) := hi'
  have hcell2 := (hq a (Array.getElem?_eq_some_iff.mp hcell).1).trans hcell
  have ha2 : k'.statics = some a := by rw [hek]; exact ha
  have hv : cell.slots[fd.slot]? = some cell.slots[fd.slot] := Array.getElem?_eq_getElem hlt
  have e0 : (Term.static O f d).eval a0 s0 none [] s0 = some cell.slots[fd.slot] := by
    simp [Term.eval, State.fieldNamed?, hi, hst, ha, hcell, hs, hv]
  have e1 : (Term.static O f d).eval a1 s none [] s = some cell.slots[fd.slot] := by
    simp [Term.eval, State.fieldNamed?, hi2, hst, ha2, hcell2, hs, hv]
  simp only [Cond.before, Cond.holds, Cond.value, e0] at h
  simp only [Cond.before, Cond.holds, Cond.value, e1]
  exact h
def x_th : List Cond := [.laysStatic "java/lang/Throwable" "UNASSIGNED_STACK" "[Ljava/lang/StackTraceElement;", .laysStatic "java/lang/Throwable" "SUPPRESSED_SENTINEL" "Ljava/util/List;", .isRef (.static "java/lang/Throwable" "UNASSIGNED_STACK" "[Ljava/lang/StackTraceElement;"), .isRef (.static "java/lang/Throwable" "SUPPRESSED_SENTINEL" "Ljava/util/List;"), .declares ⟨"java/lang/RuntimeException", "<init>", "(Ljava/lang/String;)V"⟩, .declares ⟨"java/lang/Exception", "<init>", "(Ljava/lang/String;)V"⟩, .declares ⟨"java/lang/Throwable", "<init>", "(Ljava/lang/String;)V"⟩, .castable "java/lang/IllegalStateException" "java/lang/IllegalStateException", .castable "java/lang/IllegalArgumentException" "java/lang/IllegalArgumentException"]
theorem x_dcl {s0 s : State} {a0 a1 : Array Value} {x : MethodName} (h : (Cond.declares x).before a0 s0 = true) (hW : s0.WarmedH s.vm) : (Cond.declares x).before a1 s = true := by
  have e1 : (Cond.declares x).before a1 s = (Cond.declares x).before a0 (s0.setVm s.vm) := rfl
  rw [e1, Cond.declares_setVm hW.alike]; exact h
theorem x_cst {s0 s : State} {a0 a1 : Array Value} {x y : String} (h : (Cond.castable x y).before a0 s0 = true) (hW : s0.WarmedH s.vm) : (Cond.castable x y).before a1 s = true := by
  have e1 : (Cond.castable x y).before a1 s = (Cond.castable x y).before a0 (s0.setVm s.vm) := rfl
  rw [e1, Cond.castable_setVm hW.alike]; exact h
theorem x_nw {G : x_G} {w : Cond} (i : Nat) (hi : (flatC narrow_1)[i]? = some w) (h0 : x_0 G) : w.before #[Value.ref G.2.2.2.1.2] (x_s0 G) = true := by
  have h := h0.2.2.2.1
  rw [Cond.before_and, Bool.and_eq_true] at h
  exact flat_of_before narrow_1 h.2 w (List.mem_of_getElem? hi)
theorem x_thw {G : x_G} {s : State} {a1 : Array Value} (h : x_Z G s) : ∀ w ∈ x_th, w.before a1 s = true :=
  List.forall_mem_cons.mpr ⟨x_lays (h.1.2.2.1 _ wl_830) h.2.1 h.2.2, List.forall_mem_cons.mpr ⟨x_lays (h.1.2.2.1 _ wl_832) h.2.1 h.2.2,
    List.forall_mem_cons.mpr ⟨x_isr (h.1.2.2.1 _ wl_830) (x_nw 151 rfl h.1) h.2.1 h.2.2, List.forall_mem_cons.mpr ⟨x_isr (h.1.2.2.1 _ wl_832) (x_nw 152 rfl h.1) h.2.1 h.2.2, List.forall_mem_cons.mpr ⟨x_dcl (h.1.2.2.1 _ wx_dR) h.2.1, List.forall_mem_cons.mpr ⟨x_dcl (h.1.2.2.1 _ wx_dE) h.2.1, List.forall_mem_cons.mpr ⟨x_dcl (h.1.2.2.1 _ wx_dT) h.2.1, List.forall_mem_cons.mpr ⟨x_cst (h.1.2.2.1 _ wx_cS) h.2.1, List.forall_mem_cons.mpr ⟨x_cst (h.1.2.2.1 _ wx_cA) h.2.1, fun _ z => nomatch z⟩⟩⟩⟩⟩⟩⟩⟩⟩
def x_up : List String := ["java/lang/RuntimeException", "java/lang/Exception"]
theorem x_atS : ∀ w ∈ Bundle.ownAtoms "QuestionReader" 57 "java/lang/IllegalStateException" x_up, w ∈ x_tsl ∨ w ∈ x_th :=
  List.forall_mem_cons.mpr ⟨Or.inl w_16, List.forall_mem_cons.mpr ⟨Or.inl wx_sup, List.forall_mem_cons.mpr ⟨Or.inl w_834, List.forall_mem_cons.mpr ⟨Or.inl wx_sync, List.forall_mem_cons.mpr ⟨Or.inl w_840, List.forall_mem_cons.mpr ⟨Or.inl w_842, List.forall_mem_cons.mpr ⟨Or.inl w_826, List.forall_mem_cons.mpr ⟨Or.inl w_827, List.forall_mem_cons.mpr ⟨Or.inl w_32, List.forall_mem_cons.mpr ⟨Or.inl w_33, List.forall_mem_cons.mpr ⟨Or.inl w_828, List.forall_mem_cons.mpr ⟨Or.inl w_833, List.forall_mem_cons.mpr ⟨Or.inl w_838, List.forall_mem_cons.mpr ⟨Or.inl w_858, List.forall_mem_cons.mpr ⟨Or.inl w_815, List.forall_mem_cons.mpr ⟨Or.inl w_859, List.forall_mem_cons.mpr ⟨Or.inl w_817, List.forall_mem_cons.mpr ⟨Or.inl w_860, List.forall_mem_cons.mpr ⟨Or.inl w_819, List.forall_mem_cons.mpr ⟨Or.inl w_829, List.forall_mem_cons.mpr ⟨Or.inr (List.mem_of_getElem? (i := 0) rfl), List.forall_mem_cons.mpr ⟨Or.inl w_831, List.forall_mem_cons.mpr ⟨Or.inr (List.mem_of_getElem? (i := 1) rfl), List.forall_mem_cons.mpr ⟨Or.inl w_821, List.forall_mem_cons.mpr ⟨Or.inl w_854, List.forall_mem_cons.mpr ⟨Or.inl w_855, List.forall_mem_cons.mpr ⟨Or.inl w_857, List.forall_mem_cons.mpr ⟨Or.inl w_821, List.forall_mem_cons.mpr ⟨Or.inl w_845, List.forall_mem_cons.mpr ⟨Or.inl w_846, List.forall_mem_cons.mpr ⟨Or.inl w_847, List.forall_mem_cons.mpr ⟨Or.inl w_848, List.forall_mem_cons.mpr ⟨Or.inr (List.mem_of_getElem? (i := 4) rfl), List.forall_mem_cons.mpr ⟨Or.inl w_848, List.forall_mem_cons.mpr ⟨Or.inl w_849, List.forall_mem_cons.mpr ⟨Or.inl w_850, List.forall_mem_cons.mpr ⟨Or.inl w_851, List.forall_mem_cons.mpr ⟨Or.inr (List.mem_of_getElem? (i := 5) rfl), List.forall_mem_cons.mpr ⟨Or.inl w_851, List.forall_mem_cons.mpr ⟨Or.inl w_852, List.forall_mem_cons.mpr ⟨Or.inl w_853, List.forall_mem_cons.mpr ⟨Or.inl w_854, List.forall_mem_cons.mpr ⟨Or.inr (List.mem_of_getElem? (i := 6) rfl), List.forall_mem_cons.mpr ⟨Or.inl w_844, List.forall_mem_cons.mpr ⟨Or.inl w_804, List.forall_mem_cons.mpr ⟨Or.inr (List.mem_of_getElem? (i := 7) rfl), List.forall_mem_cons.mpr ⟨Or.inl w_812, List.forall_mem_cons.mpr ⟨Or.inl w_813, List.forall_mem_cons.mpr ⟨Or.inl w_814, List.forall_mem_cons.mpr ⟨Or.inl w_816, List.forall_mem_cons.mpr ⟨Or.inl w_818, List.forall_mem_cons.mpr ⟨Or.inl w_820, List.forall_mem_cons.mpr ⟨Or.inr (List.mem_of_getElem? (i := 2) rfl), List.forall_mem_cons.mpr ⟨Or.inr (List.mem_of_getElem? (i := 3) rfl), List.forall_mem_cons.mpr ⟨Or.inl w_824, List.forall_mem_cons.mpr ⟨Or.inl w_823, List.forall_mem_cons.mpr ⟨Or.inl w_822, fun _ z => nomatch z⟩⟩⟩⟩⟩⟩⟩⟩⟩⟩⟩⟩⟩⟩⟩⟩⟩⟩⟩⟩⟩⟩⟩⟩⟩⟩⟩⟩⟩⟩⟩⟩⟩⟩⟩⟩⟩⟩⟩⟩⟩⟩⟩⟩⟩⟩⟩⟩⟩⟩⟩⟩⟩⟩⟩⟩⟩
theorem x_atA : ∀ w ∈ Bundle.ownAtoms "QuestionReader" 139 "java/lang/IllegalArgumentException" x_up, w ∈ x_tsl ∨ w ∈ x_th :=
  List.forall_mem_cons.mpr ⟨Or.inl w_16, List.forall_mem_cons.mpr ⟨Or.inl wx_sup, List.forall_mem_cons.mpr ⟨Or.inl w_834, List.forall_mem_cons.mpr ⟨Or.inl wx_sync, List.forall_mem_cons.mpr ⟨Or.inl w_840, List.forall_mem_cons.mpr ⟨Or.inl w_842, List.forall_mem_cons.mpr ⟨Or.inl w_826, List.forall_mem_cons.mpr ⟨Or.inl w_827, List.forall_mem_cons.mpr ⟨Or.inl w_32, List.forall_mem_cons.mpr ⟨Or.inl w_33, List.forall_mem_cons.mpr ⟨Or.inl w_828, List.forall_mem_cons.mpr ⟨Or.inl w_833, List.forall_mem_cons.mpr ⟨Or.inl w_838, List.forall_mem_cons.mpr ⟨Or.inl w_858, List.forall_mem_cons.mpr ⟨Or.inl w_815, List.forall_mem_cons.mpr ⟨Or.inl w_859, List.forall_mem_cons.mpr ⟨Or.inl w_817, List.forall_mem_cons.mpr ⟨Or.inl w_860, List.forall_mem_cons.mpr ⟨Or.inl w_819, List.forall_mem_cons.mpr ⟨Or.inl w_829, List.forall_mem_cons.mpr ⟨Or.inr (List.mem_of_getElem? (i := 0) rfl), List.forall_mem_cons.mpr ⟨Or.inl w_831, List.forall_mem_cons.mpr ⟨Or.inr (List.mem_of_getElem? (i := 1) rfl), List.forall_mem_cons.mpr ⟨Or.inl w_821, List.forall_mem_cons.mpr ⟨Or.inl w_854, List.forall_mem_cons.mpr ⟨Or.inl w_855, List.forall_mem_cons.mpr ⟨Or.inl w_857, List.forall_mem_cons.mpr ⟨Or.inl w_821, List.forall_mem_cons.mpr ⟨Or.inl w_895, List.forall_mem_cons.mpr ⟨Or.inl w_896, List.forall_mem_cons.mpr ⟨Or.inl w_897, List.forall_mem_cons.mpr ⟨Or.inl w_848, List.forall_mem_cons.mpr ⟨Or.inr (List.mem_of_getElem? (i := 4) rfl), List.forall_mem_cons.mpr ⟨Or.inl w_848, List.forall_mem_cons.mpr ⟨Or.inl w_849, List.forall_mem_cons.mpr ⟨Or.inl w_850, List.forall_mem_cons.mpr ⟨Or.inl w_851, List.forall_mem_cons.mpr ⟨Or.inr (List.mem_of_getElem? (i := 5) rfl), List.forall_mem_cons.mpr ⟨Or.inl w_851, List.forall_mem_cons.mpr ⟨Or.inl w_852, List.forall_mem_cons.mpr ⟨Or.inl w_853, List.forall_mem_cons.mpr ⟨Or.inl w_854, List.forall_mem_cons.mpr ⟨Or.inr (List.mem_of_getElem? (i := 6) rfl), List.forall_mem_cons.mpr ⟨Or.inl w_894, List.forall_mem_cons.mpr ⟨Or.inl w_885, List.forall_mem_cons.mpr ⟨Or.inr (List.mem_of_getElem? (i := 8) rfl), List.forall_mem_cons.mpr ⟨Or.inl w_887, List.forall_mem_cons.mpr ⟨Or.inl w_836, List.forall_mem_cons.mpr ⟨Or.inl w_888, List.forall_mem_cons.mpr ⟨Or.inl w_889, List.forall_mem_cons.mpr ⟨Or.inl w_890, List.forall_mem_cons.mpr ⟨Or.inl w_891, List.forall_mem_cons.mpr ⟨Or.inr (List.mem_of_getElem? (i := 2) rfl), List.forall_mem_cons.mpr ⟨Or.inr (List.mem_of_getElem? (i := 3) rfl), List.forall_mem_cons.mpr ⟨Or.inl w_824, List.forall_mem_cons.mpr ⟨Or.inl w_823, List.forall_mem_cons.mpr ⟨Or.inl w_892, fun _ z => nomatch z⟩⟩⟩⟩⟩⟩⟩⟩⟩⟩⟩⟩⟩⟩⟩⟩⟩⟩⟩⟩⟩⟩⟩⟩⟩⟩⟩⟩⟩⟩⟩⟩⟩⟩⟩⟩⟩⟩⟩⟩⟩⟩⟩⟩⟩⟩⟩⟩⟩⟩⟩⟩⟩⟩⟩⟩⟩
section XT
variable {G : x_G} {M : x_M} {rm : Room} {n : Nat} {h : x_h} {cells slots : Nat} {lv : List (Nat × Value)} {pc : Nat} {Po : x_P}
set_option maxHeartbeats 1000000 in
theorem x_throw {idx kc ic i : Nat} {X tx : String} (hd0 : decode M.2.1 pc = .ok (.new idx, 3)) (hd3 : decode M.2.1 (pc + 3) = .ok (.dup, 1)) (hd4 : decode M.2.1 (pc + 4) = .ok (.ldc kc, 2)) (hd6 : decode M.2.1 (pc + 6) = .ok (.invokespecial ic, 3)) (hd9 : decode M.2.1 (pc + 9) = .ok (.athrow, 1))
    (hM : M.1.cls = "QuestionReader") (hE : M.2.2.2.2 = []) (hX : Bundle.fit X = true) (hlk : Cond.classLink "QuestionReader" idx X ∈ x_tsl) (hini : Cond.initialized X ∈ x_tsl) (hins : Cond.instantiable X 6 ∈ x_tsl)
    (hat : ∀ w ∈ Bundle.ownAtoms "QuestionReader" ic X x_up, w ∈ x_tsl ∨ w ∈ x_th) (hvk : x_cs G → vk_R "QuestionReader" kc tx (x_C G i) (x_s0 G))
    (h1 : 6 ≤ rm.frames) (h2 : 90 ≤ rm.locals) (h3 : cells + 1 ≤ rm.cells) (h4 : slots + 6 ≤ rm.slots) (hp : Po (.inr X) n h) : x_W G M rm (x_Q G rm false Po) false n h cells slots lv [] pc := by
  intro p e s m args below meth c F H locs ls hH hS hl T hT Y
  subst hT
  obtain ⟨f1, f2, f3, f4, f5, f6, f7, f8, hts, hK⟩ := id F
  have Y1 := x_re (R' := { rm with cells := 1, slots := 6 }) Y (Nat.le_refl _) (Nat.le_refl _) h3 h4
  have hWs := Y.warmed
  obtain ⟨g0, hg0⟩ := Y.frames_eq
  have hcur := State.cur_lt_of_frames hg0
  generalize hs1 : T.setFrames (.invoking m args :: below) = s1 at Y1
  have e1 : s1.heap = T.heap := by rw [← hs1]; rfl
  have e2 : s1.vm = T.vm := by rw [← hs1]; rfl
  have hW1 : s.WarmedH s1.vm := by rw [e2]; exact hWs
  have hK1 : x_K G s1 := hK.next hW1 (by rw [e1]; exact hS) (by rw [e1]; exact hH.2.2.2.2)
  have hts1 : ∀ w ∈ x_tsl, w.before args s1 = true := fun w hw => word_at hW1 (x_good w hw) (hts w hw)
  have hown : s1.vm.findClass "QuestionReader" = some m.cls := by rw [e2, hWs.alike.findClass, ← hM]; exact f6
  obtain ⟨vm₁, cX, kX, hfX, hkX, -, -, Y2, st1⟩ := Y1.newCold f1 (own := "QuestionReader") (C := X) (index := idx) (n := 6) hown (hts1 _ hlk) (hts1 _ hins) (hts1 _ hini) (g := F0 m pc ls []) rfl (by rw [f2]; exact hd0) (Nat.le_refl 1) (Nat.le_refl 6)
  generalize hU : (T.setVm vm₁).pushCell { cls := cX, slots := kX.instanceTypes.map defaultValue, vm := .none } = U at Y2 st1
  have hcellA : U.heap[T.heap.size]? = some (freshCell cX kX) := by rw [← hU]; exact State.heap_pushCell_size _ _
  have htr : e.platform.stackTraces = false := Launch.traces_off hK.2.1.1.2.1 Y.admits
  have hvk1 := vk_R.warm (own := "QuestionReader") hK1.2.1.2.1 (hvk hK.2.1.1.1)
  have hout : ∀ x ∈ c.exceptionTable.toList, covers x (pc + 6 + 3) = false := fun x hx => by
    have : c.exceptionTable.toList = [] := by
      have := f5
      rw [hE] at this
      exact List.map_eq_nil_iff.mp this
    rw [this] at hx
    cases hx
  have w1 : W p (x_l G) e { rm with cells := 1, slots := 6 } s1 m args below meth c U.heap [] (0 + 1) (0 + 6) (fun V => x_Q G rm false Po below args s V) (F0 m (pc + 3) ls [.ref T.heap.size]) := by
    refine lv_dup f1 f2 hd3 rfl ?_
    refine va_ldcS f1 f2 hown hvk1 hd4 ?_
    intro T' hT' Z'
    obtain ⟨V, hsteps, hrun, hend, hW2, hsame, ce, hce, K⟩ := Z'.ctorThrowS f1 htr (own := "QuestionReader") (cls := X) (names := x_up) (ic := ic) hown hX (by decide +kernel)
      (fun y hy => (hat y hy).elim (hts1 y) (x_thw hK1.2.1 y)) (fun y hy => by cases hy) hfX hkX (by rw [hT']; exact hcellA) (by rw [e1]; exact Nat.le_refl _) (msg := .ref (x_C G i)) rfl
      (g := F0 m (pc + 6) ls [.ref (x_C G i), .ref T.heap.size, .ref T.heap.size]) rfl (hl.1.trans f3.symm) rfl rfl (rest := []) rfl
      (by rw [f2]; exact hd6) (by rw [f2]; exact hd9) hout (by show 2 + 3 < rm.frames; omega) (by show 2 * 0 + (1 + 0) + (13 * (2 + 1) + 42) ≤ rm.locals; omega) f7
    have hq : ∀ q : Nat, q < T.heap.size → V.heap[q]? = T.heap[q]? := fun q hq => by
      obtain ⟨-, -, -, -, -, hcl⟩ := hsame
      have hq1 : s1.heap[q]? = some T.heap[q] := by rw [e1]; exact Array.getElem?_eq_getElem hq
      obtain ⟨c', r1, r2, r3, r4⟩ := hcl q _ hq1
      have r1' : V.heap[q]? = some c' := r1
      rw [r1', r2, Array.getElem?_eq_getElem hq]
      have : c'.slots = T.heap[q].slots := by
        apply Array.ext_getElem?
        intro j
        exact r4 j (by simp)
      rw [this]
    have hz1 : T.heap.size ≤ V.heap.size := by have := hsame.2.1; rw [e1] at this; exact this
    have hz2 : V.heap.size ≤ T.heap.size + 1 := by have := hsame.2.2.1; rw [e1] at this; exact this
    have hN : x_ns G V.heap := fun q cell q1 q2 => by
      by_cases hlt : q < T.heap.size
      · rw [hq q hlt] at q2; exact hH.2.2.2.2 q cell q1 q2
      · have hlt2 := (Array.getElem?_eq_some_iff.mp q2).1
        have : q = T.heap.size := by omega
        subst this
        rw [hce] at q2
        cases q2
        rw [K.vm]; rfl
    have hHV : x_H G false n h V.heap := ⟨hH.1, Nat.le_trans hH.2.1 hz1, (fun z => nomatch z), fun k hk => (hH.2.2.2.1 k hk).kept (hq _ (Nat.lt_of_lt_of_le (Nat.add_lt_add_left hk _) hH.2.1)), hN⟩
    have hsame2 : T.sameButNew (V.setVm T.vm) [] 1 6 := by
      rw [← hs1] at hsame
      obtain ⟨z1, z2⟩ := hsame
      refine ⟨?_, z2⟩
      rw [State.setFrames_setFrames] at z1
      exact z1
    refine ⟨V, hsteps, hrun, State.WarmedH.trans (vm' := V.vm) hW1 hW2, ⟨locs, ?_, hS.2.2⟩, ⟨Nat.le_trans hS.1 hz1, fun q q1 q2 => (hq q (Nat.lt_of_lt_of_le q1 hS.1)).trans (hS.2.1 q q1 q2)⟩, Or.inr ⟨T.heap.size, X, n, h, ce, hend, hp, hHV, hce, K.vm, ?_⟩⟩
    · have := Y.same.trans (hsame2.setVm s.vm)
      rw [List.append_nil] at this
      exact this.weaken (fun _ z _ => z) h3 h4
    · have := K.cls
      rw [e2, hWs.alike.findClass] at this
      exact this
  obtain ⟨V, q1, q2⟩ := w1 U rfl Y2
  exact ⟨V, st1 _ q1, q2⟩
end XT
