/-! exceptions: out of a method, to a handler, thrown anew -/
def x_cov (q : Nat × Nat × Nat × Nat) (pc : Nat) : Bool := decide (q.1 ≤ pc) && decide (pc < q.2.1)
theorem x_cov_eq {x : ExceptionTableEntry} {pc : Nat} : covers x pc = x_cov (x.startPc, x.endPc, x.handlerPc, x.catchType) pc := rfl
section XO
variable {G : x_G} {M : x_M} {rm : Room} {ex : Bool} {n : Nat} {h : x_h} {cells slots : Nat} {lv : List (Nat × Value)} {pc : Nat} {Y : String}
theorem x_out {Po : x_P} (hh : ∀ q ∈ M.2.2.2.2, x_cov q pc = false) (hc : cells ≤ rm.cells) (hs : slots ≤ rm.slots) (hp : Po (.inr Y) n h) : x_WT G M rm (x_Q G rm ex Po) ex n h cells slots lv Y pc := by
  intro p e s m args below meth c F H locs ls st a cell hH hS hl ha hv hY T hT X
  obtain ⟨f1, f2, f3, f4, f5, f6, f7, f8, hts, hK⟩ := id F
  have hout : ∀ x ∈ c.exceptionTable.toList, covers x pc = false := fun x hx => by
    rw [x_cov_eq]
    exact hh _ (by rw [← f5]; exact List.mem_map.mpr ⟨x, hx, rfl⟩)
  have X2 := stand_widen X hc hs
  obtain ⟨q1, q2, q3, q4, q5⟩ := X2.leaveThrown a (g := F0 m pc ls st) rfl rfl rfl hout f7
  have hth : (T.setFrames (.throwing a :: below)).heap = H := hT
  exact ⟨_, q1, q2, q4, ⟨locs, q5, hS.2.2⟩, hS.F hth, Or.inr ⟨a, Y, n, h, cell, q3, hp, by rw [hth]; exact hH, by rw [hth]; exact ha, hv, hY⟩⟩
end XO
def x_FT (e : Env) (s : State) (f : JFrame) (a : Addr) (hd : Handler) (vm' : Vm) : Prop :=
  ∀ (Q : Handler → Pre) (E : CtlPost) (d : Bool) (acts : List Action), wp (findHandler f a) Q E e d acts s ↔ Q hd d acts (s.setVm vm')
theorem x_go_hit {Q : Handler → Pre} {E : CtlPost} {e : Env} {d : Bool} {acts : List Action} {s : State} {f : JFrame} {a : Addr} {x : ExceptionTableEntry} {t : List ExceptionTableEntry} {c : ClassId} {cell : Cell} (hx : covers x f.pc = true) (h0 : x.catchType ≠ 0)
    (hl : s.vm.ClassLinks e.platform f.method.cls x.catchType c) (hcell : s.heap[a]? = some cell) (hobj : ∀ k, cell.vm ≠ .statics k)
    (hk : ∃ k, s.vm.classes[cell.cls]? = some k) (hc : ∃ k, s.vm.classes[c]? = some k) :
    wp (findHandler.go f a (x :: t)) Q E e d acts s ↔ if s.vm.assignable cell.cls c = true then Q (.found x.handlerPc) d acts (s.setVm (s.vm.noted f.method.cls x.catchType (.cls c))) else wp (findHandler.go f a t) Q E e d acts (s.setVm (s.vm.noted f.method.cls x.catchType (.cls c))) := by
  simp only [covers] at hx
  obtain ⟨ha, ht⟩ := (resolveClass_links e.toSetting hl).op (op := VmOp.resolveClass f.method.cls x.catchType) rfl
  have hal : s.vm.Alike (s.vm.noted f.method.cls x.catchType (.cls c)) := (Vm.Alike.refl s.vm).noted _ _ _
  obtain ⟨k1, hk1⟩ := hk
  obtain ⟨k2, hk2⟩ := hc
  obtain ⟨k1', hk1', -⟩ := hal.2.2 _ _ hk1
  obtain ⟨k2', hk2', -⟩ := hal.2.2 _ _ hk2
  have has : (s.vm.noted f.method.cls x.catchType (.cls c)).assignable cell.cls c = s.vm.assignable cell.cls c := by rw [hal.assignable]
  by_cases hfit : s.vm.assignable cell.cls c = true
  · rw [if_pos hfit]
    rw [hfit] at has
    simp [findHandler.go, hx, h0, ha, ht, hcell, hobj, hk1', hk2', has, VmOp.dirties, VmOp.acts]
  · rw [if_neg hfit]
    have hfit2 : s.vm.assignable cell.cls c = false := by simpa using hfit
    rw [hfit2] at has
    simp [findHandler.go, hx, h0, ha, ht, hcell, hobj, hk1', hk2', has, VmOp.dirties, VmOp.acts]
