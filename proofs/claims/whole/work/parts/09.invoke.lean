/-! calls: static, virtual, constructors; an exception is under way at pc -/
def x_WT (G : x_G) (M : x_M) (rm : Room) (Qf : List Frame → Array Value → State → State → Prop) (ex : Bool) (n : Nat) (h : x_h) (cells slots : Nat) (lv : List (Nat × Value)) (Y : String) (pc : Nat) : Prop :=
  ∀ (p : Program) (e : Env) (s : State) (m : MethodId) (args : Array Value) (below : List Frame) (meth : Method) (c : Code), x_F G M p s m args meth c →
    ∀ (H : Heap) (locs : List Loc) (ls : Array Slot) (st : List Value) (a : Nat) (cell : Cell), x_H G ex n h H → va_S (x_A G) s.heap H locs → lv_has ls M.2.2.1 (x_lv G lv) → H[a]? = some cell → cell.vm = .none → s.vm.findClass Y = some cell.cls →
    ∀ T : State, T.heap = H → Stand p (x_l G) e rm s m args below meth c T locs cells slots → ∃ t, Steps p.tables e below ((T.setTop (F0 m pc ls st)).pushFrame (.throwing a)) t ∧ Qf below args s t
def x_pl (M : x_M) : Prop := M.1.cls ≠ "java/lang/invoke/MethodHandle" ∧ M.1.cls ≠ "java/lang/invoke/VarHandle"
def x_rm (rm rm2 : Room) (M2 : x_M) : Prop := rm2.frames + 1 ≤ rm.frames ∧ 8 + (M2.2.2.1 + 11) + rm2.locals ≤ rm.locals
theorem x_stA {G : x_G} {As st : List Value} : x_st G (As.reverse ++ st) = (As.map (x_v G)).reverse ++ x_st G st := by
  simp [x_st, List.map_append, List.map_reverse]
theorem x_stV {G : x_G} {v : Option Value} {st : List Value} : x_st G (v.toList ++ st) = (v.map (x_v G)).toList ++ x_st G st := by
  cases v <;> rfl
theorem x_stW {G : x_G} {st : List Value} : ((x_st G st).map fun v => v.category).sum = (st.map fun v => v.category).sum := by
  unfold x_st
  rw [List.map_map]
  congr 1
  apply List.map_congr_left
  intro v _
  exact x_cat
section XI
variable {G : x_G} {M : x_M} {rm : Room} {Qf : List Frame → Array Value → State → State → Prop} {ex : Bool} {n : Nat} {h : x_h} {cells slots : Nat} {lv : List (Nat × Value)} {st stk : List Value} {pc : Nat}
variable {M2 : x_M} {rm2 : Room} {As : List Value} {Po : x_P} {index : Nat}
/-- behind the instruction's own step -/
theorem x_goes (hR : x_R G M2 rm2 ex As n h Po) (hM : x_cd M2) (hrm : x_rm rm rm2 M2) (hce : cells + rm2.cells ≤ rm.cells) (hsl : slots + rm2.slots ≤ rm.slots) (hal : (lg_sl As).length ≤ M2.2.2.1) (hw : (st.map fun v => v.category).sum ≤ 8)
    (kr : ∀ v n' h', Po (.inl v) n' h' → x_W G M rm Qf ex n' h' (cells + rm2.cells) (slots + rm2.slots) lv (v.toList ++ st) (pc + 3))
    (kt : ∀ Y n' h', Po (.inr Y) n' h' → x_WT G M rm Qf ex n' h' (cells + rm2.cells) (slots + rm2.slots) lv Y pc)
    {p : Program} {e : Env} {s : State} {m : MethodId} {args : Array Value} {below : List Frame} {meth : Method} {c : Code} (F : x_F G M p s m args meth c) {T : State} {locs : List Loc} {ls : Array Slot} (hH : x_H G ex n h T.heap) (hS : va_S (x_A G) s.heap T.heap locs) (hl : lv_has ls M.2.2.1 (x_lv G lv))
    (X : Stand p (x_l G) e rm s m args below meth c T locs cells slots) {ig : Instr} (hd : decode M.2.1 pc = .ok (ig, 3)) {mk : MethodId} (hnk : s.methodNamed? M2.1 = some mk) :
    ∃ t, (∀ acts, Steps p.tables e below (doInvoke e (T.setTop (F0 m pc ls (x_st G st))) acts mk (As.map (x_v G)).toArray).1 t) ∧ Qf below args s t := by
  obtain ⟨f1, f2, f3, f4, f5, f6, f7, f8, hts, hK⟩ := id F
  obtain ⟨T', L, X', hS', hor⟩ := x_enter hR hM X f1 hts hK hH hS (g := F0 m pc ls (x_st G st)) rfl (hl.1.trans f3.symm) (by rw [f2]; exact hd) (by show 2 * 0 + _ ≤ 8; rw [x_stW]; omega) hnk hrm hce hsl hal
  rcases hor with ⟨v, n', h', r1, r2, r3⟩ | ⟨a, Y, n', h', cell, r1, r2, r3, r4, r5, r6⟩
  · obtain ⟨t, a1, b1⟩ := kr v n' h' r1 p e s m args below meth c F T'.heap (locs ++ L) ls r2 hS' hl T' rfl X'
    rw [x_stV] at a1
    exact ⟨t, fun acts => (r3 acts).trans a1, b1⟩
  · obtain ⟨t, a1, b1⟩ := kt Y n' h' r1 p e s m args below meth c F T'.heap (locs ++ L) ls (x_st G st) a cell r2 hS' hl r3 r4 r5 T' rfl X'
    exact ⟨t, fun acts => (r6 acts).trans a1, b1⟩
theorem x_callS (hd : decode M.2.1 pc = .ok (.invokestatic index, 3)) (hR : x_R G M2 rm2 ex As n h Po) (hM : x_cd M2) (hlk : Cond.methodLink M.1.cls index M2.1 ∈ x_tsl) (hss : Cond.static M2.1 ∈ x_tsl) (hii : Cond.initialized M2.1.cls ∈ x_tsl) (hp : x_pl M2) (hn : (parseMethodDescriptor M2.1.desc).map (fun d => d.parameters.length) = some As.length)
    (hrm : x_rm rm rm2 M2) (hce : cells + rm2.cells ≤ rm.cells) (hsl : slots + rm2.slots ≤ rm.slots) (hal : (lg_sl As).length ≤ M2.2.2.1) (hw : (st.map fun v => v.category).sum ≤ 8) (hst : stk = As.reverse ++ st)
    (kr : ∀ v n' h', Po (.inl v) n' h' → x_W G M rm Qf ex n' h' (cells + rm2.cells) (slots + rm2.slots) lv (v.toList ++ st) (pc + 3))
    (kt : ∀ Y n' h', Po (.inr Y) n' h' → x_WT G M rm Qf ex n' h' (cells + rm2.cells) (slots + rm2.slots) lv Y pc) : x_W G M rm Qf ex n h cells slots lv stk pc := by
  intro p e s m args below meth c F H locs ls hH hS hl T hT X
  subst hT; subst hst
  obtain ⟨f1, f2, f3, f4, f5, f6, f7, f8, hts, hK⟩ := id F
  obtain ⟨mk, methk, ck, n1, n2, n3, n4, n5, n6, n7, n8, n9⟩ := hM.spec hts
  obtain ⟨kP, hkP, -⟩ := className_of_methodNamed n1
  rw [n9] at hn
  obtain ⟨vm₁, X₁, hstep⟩ := X.invokestatic f1 f6 (hts _ hlk) n1 n2 (Cond.static_spec n1 n2 (hts _ hss)) hkP (Cond.initialized_spec (findClass_of_methodNamed n1) hkP (hts _ hii)) hp (g := F0 m pc ls (x_st G (As.reverse ++ st))) rfl (argsL := As.map (x_v G)) (rest := x_st G st) (by rw [List.length_map]; exact (Option.some.inj hn).symm) x_stA (by rw [f2]; exact hd)
  obtain ⟨t, a1, b1⟩ := x_goes hR hM hrm hce hsl hal hw kr kt F (T := T.setVm vm₁) hH hS hl X₁ hd n1
  exact ⟨t, hstep _ a1, b1⟩
theorem x_callV {b ci : Nat} {fs : List Value} {C : String} {Tb : u_T} {N : Nat} (hd : decode M.2.1 pc = .ok (.invokevirtual index, 3)) (hR : x_R G M2 rm2 ex (.ref b :: As) n h Po) (hM : x_cd M2) (hlk : Cond.methodLink M.1.cls index M2.1 ∈ x_tsl) (hii : Cond.instanceMethod M2.1 ∈ x_tsl) (hse : Cond.selects C M2.1 M2.1 ∈ x_tsl) (hp : x_pl M2) (hn : (parseMethodDescriptor M2.1.desc).map (fun d => d.parameters.length) = some As.length)
    (hb : b < n) (hc : h b = .inr (ci, fs)) (hcl : vwCl[ci]? = some (C, Tb, N))
    (hrm : x_rm rm rm2 M2) (hce : cells + rm2.cells ≤ rm.cells) (hsl : slots + rm2.slots ≤ rm.slots) (hal : (lg_sl (.ref b :: As)).length ≤ M2.2.2.1) (hw : (st.map fun v => v.category).sum ≤ 8) (hst : stk = As.reverse ++ .ref b :: st)
    (kr : ∀ v n' h', Po (.inl v) n' h' → x_W G M rm Qf ex n' h' (cells + rm2.cells) (slots + rm2.slots) lv (v.toList ++ st) (pc + 3))
    (kt : ∀ Y n' h', Po (.inr Y) n' h' → x_WT G M rm Qf ex n' h' (cells + rm2.cells) (slots + rm2.slots) lv Y pc) : x_W G M rm Qf ex n h cells slots lv stk pc := by
  intro p e s m args below meth c F H locs ls hH hS hl T hT X
  subst hT; subst hst
  obtain ⟨f1, f2, f3, f4, f5, f6, f7, f8, hts, hK⟩ := id F
  obtain ⟨mk, methk, ck, n1, n2, n3, n4, n5, n6, n7, n8, n9⟩ := hM.spec hts
  obtain ⟨mk', methM, hnamed, hmethM, hstM, habM⟩ := Cond.instanceMethod_spec (hts _ hii)
  cases n1.symm.trans hnamed
  cases n2.symm.trans hmethM
  obtain ⟨cellB, hcB, hoB, hclB⟩ := va_recv hK.1 (hH.at hb hc) (q0 := 0) hcl rfl
  obtain ⟨c2, r2, m2, q1, q2, q3, q4, kP, hkP, hkPi⟩ := Cond.selects_spec (hts _ hse)
  cases hclB.symm.trans q1
  cases (State.methodFound?_of_named hnamed hp).symm.trans q2
  cases hnamed.symm.trans q3
  have hselP : selectMethod e.platform s.vm cellB.cls mk = .method mk := by rw [Launch.admits_selectMethod X.admits]; exact q4
  rw [n9] at hn
  obtain ⟨vm₁, X₁, hstep⟩ := X.invokevirtual f1 f6 (hts _ hlk) hnamed hmethM hstM hkP hkPi hp (a := x_B G + b) (cell := cellB) hcB (fun z h => by rw [h] at hoB; cases hoB) hselP hmethM habM hkP hkPi (g := F0 m pc ls (x_st G (As.reverse ++ .ref b :: st))) rfl (argsL := As.map (x_v G)) (rest := x_st G st) (by rw [List.length_map]; exact (Option.some.inj hn).symm)
    (by show x_st G (As.reverse ++ .ref b :: st) = _; rw [x_stA]; show _ ++ (Value.ref (x_ad G b) :: x_st G st) = _; rw [x_ad_new (Nat.lt_of_lt_of_le hb hH.1)]) (by rw [f2]; exact hd)
  obtain ⟨t, a1, b1⟩ := x_goes hR hM hrm hce hsl hal hw kr kt F (T := T.setVm vm₁) hH hS hl X₁ hd n1
  refine ⟨t, hstep _ (fun acts => ?_), b1⟩
  have e0 : (Value.ref (x_B G + b) :: As.map (x_v G)).toArray = ((Value.ref b :: As).map (x_v G)).toArray := by
    show _ = (Value.ref (x_ad G b) :: As.map (x_v G)).toArray
    rw [x_ad_new (Nat.lt_of_lt_of_le hb hH.1)]
  rw [e0]
  exact a1 acts
theorem x_callI {b : Nat} (hd : decode M.2.1 pc = .ok (.invokespecial index, 3)) (hR : x_R G M2 rm2 ex (.ref b :: As) n h Po) (hM : x_cd M2) (hM0 : Cond.code M2.1 M2.2.1 M2.2.2.1 none ∈ x_tsl) (hnm : M2.1.name = "<init>") (hlk : Cond.methodLink M.1.cls index M2.1 ∈ x_tsl) (hii : Cond.instanceMethod M2.1 ∈ x_tsl) (hp : x_pl M2) (hn : (parseMethodDescriptor M2.1.desc).map (fun d => d.parameters.length) = some As.length)
    (hrm : x_rm rm rm2 M2) (hce : cells + rm2.cells ≤ rm.cells) (hsl : slots + rm2.slots ≤ rm.slots) (hal : (lg_sl (.ref b :: As)).length ≤ M2.2.2.1) (hw : (st.map fun v => v.category).sum ≤ 8) (hst : stk = As.reverse ++ .ref b :: st)
    (kr : ∀ v n' h', Po (.inl v) n' h' → x_W G M rm Qf ex n' h' (cells + rm2.cells) (slots + rm2.slots) lv (v.toList ++ st) (pc + 3))
    (kt : ∀ Y n' h', Po (.inr Y) n' h' → x_WT G M rm Qf ex n' h' (cells + rm2.cells) (slots + rm2.slots) lv Y pc) : x_W G M rm Qf ex n h cells slots lv stk pc := by
  intro p e s m args below meth c F H locs ls hH hS hl T hT X
  subst hT; subst hst
  obtain ⟨f1, f2, f3, f4, f5, f6, f7, f8, hts, hK⟩ := id F
  have hpl : e.platform.magicAccessors = ({} : Platform).magicAccessors := by rw [X.admits.platform]
  obtain ⟨mk, methM, cM, kP, vm₁, hnamed, hmethM, hcodeM, -, hlocalsM, -, hkP, -, hW₁, hstep⟩ := Steps.initColdArgs (e := e) X.here f1 X.warmed hpl f6 hnm hp (hts _ hlk) (hts _ hii) (hts _ hM0) (f := F0 m pc ls (x_st G (As.reverse ++ .ref b :: st))) rfl (a := x_ad G b) (argsL := As.map (x_v G)) (rest := x_st G st)
    (fun sig z => by rw [z] at hn; rw [List.length_map]; exact (Option.some.inj hn).symm) (by show x_st G (As.reverse ++ .ref b :: st) = _; rw [x_stA]; rfl) (by rw [f2]; exact hd)
  obtain ⟨t, a1, b1⟩ := x_goes hR hM hrm hce hsl hal hw kr kt F (T := T.setVm vm₁) hH hS hl (X.noted hW₁) hd hnamed
  exact ⟨t, hstep _ a1, b1⟩
end XI
