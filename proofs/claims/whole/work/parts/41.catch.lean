/-! an exception that comes to a handler of the method -/
theorem x_stepc {e : Env} {s : State} {a : Addr} {f : JFrame} {r : List Frame} {pc : Nat} {vm' : Vm} (hfind : x_FT e s f a (.found pc) vm') :
    (stepThrowing e s a (.java f :: r)).Is ((s.setVm vm').setFrames (.java { f with pc := pc, stack := [.ref a] } :: r)) [] := by
  simp only [stepThrowing, searchFrame, vmDo]
  generalize hr : Sem.go _ e false [] s = res
  obtain ⟨as, rfl, ha⟩ := Sem.eq_ok_of hr (a := Handler.found pc) (s' := s.setVm vm') (acts' := []) (by simp [hfind _ _ _ _])
  exact ⟨rfl, ha⟩
theorem x_caught {tb : Tables} {e : Env} {s target : State} {g : JFrame} {c : Code} {below : List Frame} {a : Addr} {pc : Nat} {vm' : Vm} (h : At s g.method c below)
    (hfind : x_FT e ((s.setTop g).pushFrame (.throwing a)) g a (.found pc) vm') (hrest : Steps tb e below ((s.setVm vm').setTop { g with pc := pc, stack := [.ref a] }) target) :
    Steps tb e below ((s.setTop g).pushFrame (.throwing a)) target := by
  obtain ⟨hgo, hw⟩ := h.throwing a
  refine Steps.head hgo hw ?_
  rw [stepThread_throwing (frames_entered h.top _), (x_stepc (s := (s.setTop g).pushFrame (.throwing a)) hfind).1]
  obtain ⟨g₀, hg⟩ := Option.isSome_iff_exists.mp h.top
  obtain ⟨r, hr⟩ := State.topJava?_eq_some.mp hg
  have hr' : (s.setVm vm').frames = .java g₀ :: r := hr
  rw [State.setTop_of_frames _ hr'] at hrest
  have e1 : (((s.setTop g).pushFrame (.throwing a)).setVm vm').setFrames (.java { g with pc := pc, stack := [.ref a] } :: s.frames.tail) = (s.setVm vm').setFrames (.java { g with pc := pc, stack := [.ref a] } :: r) := by
    rw [hr, List.tail_cons, State.pushFrame, State.setTop_of_frames _ hr]
    have h1 : ∀ (F : List Frame) (u : State), (u.setFrames F).setVm vm' = (u.setVm vm').setFrames F := fun _ _ => rfl
    rw [h1, State.setFrames_setFrames, h1, State.setFrames_setFrames]
  rw [e1]
  exact hrest
/-- the class of a handler: linked, and what it takes -/
theorem x_hlink {p : Program} {l : Launch} {e : Env} {R : Room} {s : State} {m : MethodId} {args : Array Value} {below : List Frame} {meth : Method} {c : Code} {T : State} {locs : List Loc} {cells slots : Nat} (X : Stand p l e R s m args below meth c T locs cells slots) {own Y : String} {ct : Nat} (hown : s.vm.findClass own = some m.cls) (hlk : (Cond.classLink own ct Y).before args s = true) :
    ∃ cY, s.vm.findClass Y = some cY ∧ T.vm.ClassLinks e.platform m.cls ct cY ∧ s.WarmedH (T.vm.noted m.cls ct (.cls cY)) ∧ ∃ k, T.vm.classes[cY]? = some k := by
  have hpl : e.platform.magicAccessors = ({} : Platform).magicAccessors := by rw [X.admits.platform]
  obtain ⟨cY, hcY, hcl⟩ := Cond.classLink_spec hown hlk e.platform hpl
  obtain ⟨dk, _, _, kt, hd, _, _, _, _, hkt, _, hopen⟩ := hcl.here
  obtain ⟨kt', hkt', -⟩ := X.warmed.alike.2.2 _ _ hkt
  exact ⟨cY, hcY, X.warmed.classLinks hcl, X.warmed.noted hd hopen (State.rightAt_cls hcl), kt', hkt'⟩
def x_st1 (M : x_M) (hpc len : Nat) : Prop := (∃ (k : Fin 4) (i : Nat), decode M.2.1 hpc = .ok (.astore_n k, 1) ∧ (k : Nat) = i ∧ i < M.2.2.1 ∧ len = 1) ∨ (∃ i : Nat, decode M.2.1 hpc = .ok (.astore i, 2) ∧ i < M.2.2.1 ∧ len = 2)
theorem x_nil {G : x_G} {ls : Array Slot} {n : Nat} {l : List (Nat × Value)} (h : lv_has ls n l) : lv_has ls n (x_lv G []) := ⟨h.1, h.2.1, fun q hq => nomatch hq⟩
section XC
variable {G : x_G} {M : x_M} {rm : Room} {Qf : List Frame → Array Value → State → State → Prop} {ex : Bool} {n : Nat} {h : x_h} {cells slots : Nat} {lv : List (Nat × Value)} {pc : Nat}
/-- the handler's first instruction: the exception is put away -/
theorem x_away {hpc len : Nat} (hst : x_st1 M hpc len) (k : x_W G M rm Qf ex n h cells slots [] [] (hpc + len)) {p : Program} {e : Env} {s : State} {m : MethodId} {args : Array Value} {below : List Frame} {meth : Method} {c : Code} (F : x_F G M p s m args meth c) {H : Heap} {locs : List Loc} {ls : Array Slot} {a : Nat} {l : List (Nat × Value)} (hH : x_H G ex n h H) (hS : va_S (x_A G) s.heap H locs) (hl : lv_has ls M.2.2.1 l) :
    W p (x_l G) e rm s m args below meth c H locs cells slots (Qf below args s) (F0 m hpc ls [.ref a]) := by
  rcases hst with ⟨q, i, h1, h2, h3, rfl⟩ | ⟨i, h1, h3, rfl⟩
  · exact lv_astore_n F.1 F.2.1 h1 h2 hl h3 rfl (fun ls' hl' => k p e s m args below meth c F H locs ls' hH hS (x_nil hl'))
  · exact lv_astore F.1 F.2.1 h1 hl h3 rfl (fun ls' hl' => k p e s m args below meth c F H locs ls' hH hS (x_nil hl'))
theorem x_catch1 {st en hpc ct len : Nat} {Y : String} {rest : List (Nat × Nat × Nat × Nat)} (hE : M.2.2.2.2 = (st, en, hpc, ct) :: rest) (hc : x_cov (st, en, hpc, ct) pc = true) (h0 : ct ≠ 0) (hlk : Cond.classLink M.1.cls ct Y ∈ x_tsl) (hcs : Cond.castable Y Y ∈ x_th) (hst : x_st1 M hpc len)
    (k : x_W G M rm Qf ex n h cells slots [] [] (hpc + len)) : x_WT G M rm Qf ex n h cells slots lv Y pc := by
  intro p e s m args below meth c F H locs ls stk a cell hH hS hl ha hv hY T hT X
  subst hT
  obtain ⟨f1, f2, f3, f4, f5, f6, f7, f8, hts, hK⟩ := id F
  rw [hE] at f5
  obtain ⟨x, t, hx0, hx1, -⟩ := List.map_eq_cons_iff.mp f5
  obtain ⟨cY, q1, q2, q3, q4⟩ := x_hlink X f6 (hts _ hlk)
  cases hY.symm.trans q1
  have hct : x.catchType = ct := congrArg (fun z => z.2.2.2) hx1
  have hhp : x.handlerPc = hpc := congrArg (fun z => z.2.2.1) hx1
  obtain ⟨c3, c4, hc3, hc4, hasg⟩ := Cond.castable_spec (x_thw (a1 := args) hK.2.1 _ hcs)
  cases hc3.symm.trans hY
  cases hc4.symm.trans hY
  have hasg' : T.vm.assignable cell.cls cell.cls = true := by rw [X.warmed.alike.assignable]; exact hasg
  have X2 := X.noted q3
  obtain ⟨t', w1, w2⟩ := x_away hst k F (a := a) hH hS hl (T.setVm (T.vm.noted m.cls ct (.cls cell.cls))) rfl X2
  refine ⟨t', x_caught (g := F0 m pc ls stk) (pc := hpc) (vm' := T.vm.noted m.cls ct (.cls cell.cls)) X.here ?_ w1, w2⟩
  intro Q E d acts
  rw [W.findHandler_eq (s := (T.setTop (F0 m pc ls stk)).pushFrame (.throwing a)) (f := F0 m pc ls stk) X.method' X.code, hx0, x_go_hit (s := (T.setTop (F0 m pc ls stk)).pushFrame (.throwing a)) (f := F0 m pc ls stk) (c := cell.cls) (cell := cell) (by rw [x_cov_eq, hx1]; exact hc) (by rw [hct]; exact h0) (by rw [hct]; exact q2) ha (fun z => by rw [hv]; exact fun z => nomatch z) q4 q4]
  rw [if_pos (show ((T.setTop (F0 m pc ls stk)).pushFrame (.throwing a)).vm.assignable cell.cls cell.cls = true from hasg'), hhp, hct]
  rfl
/-- the first entry's class doesn't take it, the second's does -/
theorem x_catch2 {st en hp0 ct0 hpc ct len : Nat} {Y0 Y : String} {rest : List (Nat × Nat × Nat × Nat)} (hE : M.2.2.2.2 = (st, en, hp0, ct0) :: (st, en, hpc, ct) :: rest) (hc0 : x_cov (st, en, hp0, ct0) pc = true) (hc : x_cov (st, en, hpc, ct) pc = true) (h00 : ct0 ≠ 0) (h0 : ct ≠ 0) (hlk0 : Cond.classLink M.1.cls ct0 Y0 ∈ x_tsl) (hlk : Cond.classLink M.1.cls ct Y ∈ x_tsl) (hcs : Cond.castable Y Y ∈ x_th)
    (i : Nat) (hno : (flatC narrow_1)[i]? = some (Cond.not (Cond.castable Y Y0))) (hst : x_st1 M hpc len)
    (k : x_W G M rm Qf ex n h cells slots [] [] (hpc + len)) : x_WT G M rm Qf ex n h cells slots lv Y pc := by
  intro p e s m args below meth c F H locs ls stk a cell hH hS hl ha hv hY T hT X
  subst hT
  obtain ⟨f1, f2, f3, f4, f5, f6, f7, f8, hts, hK⟩ := id F
  rw [hE] at f5
  obtain ⟨x0, t0, hx0, hx1, hx2⟩ := List.map_eq_cons_iff.mp f5
  obtain ⟨x, t, hy0, hy1, -⟩ := List.map_eq_cons_iff.mp hx2
  subst hy0
  obtain ⟨cY0, q1, q2, q3, q4⟩ := x_hlink X f6 (hts _ hlk0)
  have X1 := X.noted q3
  obtain ⟨cY, p1, p2, p3, p4⟩ := x_hlink X1 f6 (hts _ hlk)
  cases hY.symm.trans p1
  have hct0 : x0.catchType = ct0 := congrArg (fun z => z.2.2.2) hx1
  have hct : x.catchType = ct := congrArg (fun z => z.2.2.2) hy1
  have hhp : x.handlerPc = hpc := congrArg (fun z => z.2.2.1) hy1
  obtain ⟨c3, c4, hc3, hc4, hasg⟩ := Cond.castable_spec (x_thw (a1 := args) hK.2.1 _ hcs)
  cases hc3.symm.trans hY
  cases hc4.symm.trans hY
  have hW0 := hK.2.1.2.1
  have hno1 := x_nw i hno hK.2.1.1
  have e1 : (x_s0 G).vm.findClass Y = some cell.cls := by rw [← hY, hW0.alike.findClass]
  have e2 : (x_s0 G).vm.findClass Y0 = some cY0 := by rw [← q1, hW0.alike.findClass]
  have hno2 : (x_s0 G).vm.assignable cell.cls cY0 = false := by
    simpa [Cond.before, Cond.holds, Cond.value, e1, e2] using hno1
  have hno3 : T.vm.assignable cell.cls cY0 = false := by rw [X.warmed.alike.assignable, hW0.alike.assignable]; exact hno2
  have hasg' : (T.vm.noted m.cls ct0 (.cls cY0)).assignable cell.cls cell.cls = true := by rw [q3.alike.assignable]; exact hasg
  have X2 := X1.noted p3
  obtain ⟨kc, hkc⟩ := p4
  have hkT : ∃ k, T.vm.classes[cell.cls]? = some k := Vm.classAt_of_findClass (name := Y) (by rw [X.warmed.alike.findClass]; exact hY)
  obtain ⟨t', w1, w2⟩ := x_away hst k F (a := a) hH hS hl ((T.setVm (T.vm.noted m.cls ct0 (.cls cY0))).setVm ((T.vm.noted m.cls ct0 (.cls cY0)).noted m.cls ct (.cls cell.cls))) rfl X2
  refine ⟨t', x_caught (g := F0 m pc ls stk) (pc := hpc) (vm' := (T.vm.noted m.cls ct0 (.cls cY0)).noted m.cls ct (.cls cell.cls)) X.here ?_ w1, w2⟩
  intro Q E d acts
  rw [W.findHandler_eq (s := (T.setTop (F0 m pc ls stk)).pushFrame (.throwing a)) (f := F0 m pc ls stk) X.method' X.code, hx0, x_go_hit (s := (T.setTop (F0 m pc ls stk)).pushFrame (.throwing a)) (f := F0 m pc ls stk) (c := cY0) (cell := cell) (by rw [x_cov_eq, hx1]; exact hc0) (by rw [hct0]; exact h00) (by rw [hct0]; exact q2) ha (fun z => by rw [hv]; exact fun z => nomatch z) hkT q4]
  rw [if_neg (show ¬ ((T.setTop (F0 m pc ls stk)).pushFrame (.throwing a)).vm.assignable cell.cls cY0 = true from (by rw [Bool.not_eq_true]; exact hno3)), hct0]
  rw [x_go_hit (s := ((T.setTop (F0 m pc ls stk)).pushFrame (.throwing a)).setVm (((T.setTop (F0 m pc ls stk)).pushFrame (.throwing a)).vm.noted (F0 m pc ls stk).method.cls ct0 (.cls cY0))) (f := F0 m pc ls stk) (c := cell.cls) (cell := cell) (by rw [x_cov_eq, hy1]; exact hc) (by rw [hct]; exact h0) (by rw [hct]; exact p2) ha (fun z => by rw [hv]; exact fun z => nomatch z) ⟨kc, hkc⟩ ⟨kc, hkc⟩]
  refine Iff.trans (iff_of_eq (if_pos ?_)) ?_
  · exact hasg'
  · rw [hhp, hct]
    rfl
end XC
