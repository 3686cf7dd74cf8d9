/-! rows of the constructors: the heap grows cell by cell, and nothing else is new -/
theorem wr_ao4 : Cond.arrayOver (.object "QuestionReader$Dimension") ∈ lw_tbl := x_l1 (List.mem_of_getElem? (i := 122) rfl)
theorem wr_ao5 : Cond.arrayOver (.object "QuestionReader$Comparison") ∈ lw_tbl := x_l1 (List.mem_of_getElem? (i := 227) rfl)
theorem wr_ao6 : Cond.arrayOver (.array .int) ∈ lw_tbl := x_l1 (List.mem_of_getElem? (i := 129) rfl)
theorem x_aoO {G : x_G} {s : State} (hZ : x_Z G s) {C : String} (hw : Cond.arrayOver (.object C) ∈ lw_tbl) {args : Array Value} : (Cond.arrayOver (.object C)).before args s = true :=
  va_AO.use (va_AO.moved hZ.2.1.alike (va_AO.of (hZ.1.2.2.1 _ hw)))
theorem x_aoA {G : x_G} {s : State} (hZ : x_Z G s) {t : FieldType} (hw : Cond.arrayOver (.array t) ∈ lw_tbl) {args : Array Value} : (Cond.arrayOver (.array t)).before args s = true := by
  have hvm := hZ.2.1.alike
  obtain ⟨comp, c, k, h1, h2, h3, h4, h5⟩ := arrayOverA_spec (hZ.1.2.2.1 _ hw)
  obtain ⟨k', hk', he⟩ := hvm.2.2 _ _ h3
  have hi : (s.vm.classes.findIdx? fun (x : Class) => match x.kind with | .array component _ => component == comp | _ => false) = some c := by
    refine (va_idx_bare s.vm comp).symm.trans ?_
    first | rw [hvm.bare_eq] | rw [← hvm.bare_eq]
    exact (va_idx_bare _ comp).trans h2
  have hkind : k'.kind = .array comp (.array t) := by rw [he]; exact h4
  have f1 : s.vm.findClass (FieldType.array t).toString = some comp := by rw [hvm.findClass]; exact h1
  have f2 : s.vm.findClass ("[" ++ (FieldType.array t).toString) = some c := by rw [hvm.findClass]; exact h5
  unfold Cond.before Cond.holds
  simp only [Cond.value]
  rw [f1, Option.bind_some]
  refine (congrArg (fun o : Option Nat => (o.bind (fun c => (s.vm.classes[c]?).map fun (k : Class) => match k.kind with | .array _ ty => decide (ty = FieldType.array t) && decide (s.vm.findClass ("[" ++ (FieldType.array t).toString) = some c) | _ => false) == some true)) hi).trans ?_
  simp [hk', hkind, f2]
theorem x_nM {G : x_G} {s : State} (hZ : x_Z G s) {a : String} {i : Nat} {x : MethodName} {h : String} (hw : Cond.methodLinkNest a i x h ∈ lw_tbl) {args : Array Value} : (Cond.methodLinkNest a i x h).before args s = true :=
  va_Nw.use rfl (va_Nw.warmM hZ.2.1 (va_Nw.of rfl (hZ.1.2.2.1 _ hw)))
theorem x_outer (c : ClassId) (N h0 : Nat) : ∀ i : Nat, Jvm.Free.Multi.outerC c N h0 i = arrV c N (fun j => va_rf (if j < i then some (h0 + 1 + j) else none))
  | 0 => by
    show ({ cls := c, slots := Array.replicate N .null, vm := .none } : Cell) = _
    rw [arrV_new]
    exact congrArg (arrV c N) (funext fun j => by simp [va_rf])
  | i + 1 => by
    show (Jvm.Free.Multi.outerC c N h0 i).setSlot i (.ref (h0 + 1 + i)) = _
    rw [x_outer c N h0 i, arrV_store]
    refine congrArg (arrV c N) (funext fun j => ?_)
    by_cases e : j = i
    · subst e; simp [updV, va_rf]
    · by_cases h : j < i
      · simp [updV, e, h, Nat.lt_succ_of_lt h]
      · simp [updV, e, h, show ¬ j < i + 1 by omega]
/-- the five cells of new int[4][1000] -/
def x_h5 (h : x_h) (n : Nat) : x_h := fun k => if k = n then .inl (6, 4, .inr (.inr (.inr (.inr (fun i => if i < 4 then some (n + 1 + i) else none))))) else if n < k ∧ k < n + 5 then .inl (0, 1000, .inl (fun _ => 0)) else h k
section XN
variable {G : x_G} {M : x_M} {rm : Room} {Qf : List Frame → Array Value → State → State → Prop} {ex : Bool} {n : Nat} {h : x_h} {cells slots : Nat} {lv : List (Nat × Value)} {st stk : List Value} {pc : Nat}
theorem x_cong {h' : x_h} (hq : ∀ k, k < n → h k = h' k) (kk : x_W G M rm Qf ex n h' cells slots lv st pc) : x_W G M rm Qf ex n h cells slots lv st pc :=
  fun p e s m args below meth c F H locs ls hH hS hl => kk p e s m args below meth c F H locs ls ⟨hH.1, hH.2.1, hH.2.2.1, fun k hk => by rw [← hq k hk]; exact hH.2.2.2.1 k hk, hH.2.2.2.2⟩ hS hl
theorem x_exf (kk : x_W G M rm Qf false n h cells slots lv st pc) : x_W G M rm Qf true n h cells slots lv st pc :=
  fun p e s m args below meth c F H locs ls hH hS hl => kk p e s m args below meth c F H locs ls ⟨hH.1, hH.2.1, (fun z => nomatch z), hH.2.2.2.1, hH.2.2.2.2⟩ hS hl
theorem x_objI {index a : Nat} (hd : decode M.2.1 pc = .ok (.invokespecial index, 3)) (hlk : Cond.methodLink M.1.cls index ⟨"java/lang/Object", "<init>", "()V"⟩ ∈ x_tsl) (h1 : 1 ≤ rm.frames) (h2 : 20 ≤ rm.locals) (hw : (st.map fun v => v.category).sum ≤ 8) (kk : x_W G M rm Qf ex n h cells slots lv st (pc + 3)) : x_W G M rm Qf ex n h cells slots lv (.ref a :: st) pc := by
  intro p e s m args below meth c F H locs ls hH hS hl
  obtain ⟨f1, f2, f3, f4, f5, f6, f7, f8, hts, hK⟩ := id F
  exact W.objInit f1 f2 f6 (hts _ hlk) (hts _ w_32) (hts _ w_33) (g := F0 m pc ls (.ref (x_ad G a) :: x_st G st)) rfl (hl.1.trans f3.symm) rfl hd h1 (by show 2 * 0 + ((x_st G st).map fun v => v.category).sum + 12 ≤ _; rw [x_stW]; omega) (kk p e s m args below meth c F H locs ls hH hS hl)
theorem x_newO {index ci N : Nat} {C : String} {T : u_T} {t0 : Nat → FieldType} {fs : List Value} (hd : decode M.2.1 pc = .ok (.new index, 3)) (hcl : vwCl[ci]? = some (C, T, N)) (hws : ∀ w ∈ u_ws C T N, w ∈ x_tsl) (hb : x_tb T N t0) (hlk : Cond.classLink M.1.cls index C ∈ x_tsl) (hinst : Cond.instantiable C N ∈ x_tsl) (hini : Cond.initialized C ∈ x_tsl) (hfs : ∀ j, j < N → defaultValue (t0 j) = vp_V (fs.map (x_v G)) j) (hn : n + 1 ≤ x_N) (hc : cells + 1 ≤ rm.cells) (hs : slots + N ≤ rm.slots)
    (kk : x_W G M rm Qf true (n + 1) (va_up h n (.inr (ci, fs))) (cells + 1) (slots + N) lv (.ref n :: st) (pc + 3)) : x_W G M rm Qf true n h cells slots lv st pc := by
  intro p e s m args below meth c F H locs ls hH hS hl
  obtain ⟨f1, f2, f3, f4, f5, f6, f7, f8, hts, hK⟩ := id F
  have hKn := hK.1.1 ci _ hcl
  refine W.newcK f1 f2 f6 (hts _ hlk) (hts _ hinst) (hts _ hini) (g := F0 m pc ls (x_st G st)) rfl hd hc hs hKn.2.1 (hH.2.2.1 rfl) fun H1 kC hkC e1 z1 o1 => ?_
  have hz := hH.2.2.1 rfl
  have := kk p e s m args below meth c F H1 locs ls (hH.new hn (by rw [z1, hz]) (fun q hq => o1 q (by rw [← hz]; exact hq)) ⟨_, hcl, (u_born t0 hts hws hKn hkC e1 hb.1).to hfs⟩) (x_S.new hS (by rw [z1, hz]; exact Nat.le_succ _) (fun q hq => o1 q (by rw [← hz]; exact hq))) hl
  show W p _ e rm s m args below meth c H1 locs (cells + 1) (slots + N) _ (F0 m (pc + 3) ls (.ref (x_B G + n) :: x_st G st))
  rw [← x_ad_new (G := G) (Nat.lt_of_succ_le hn)]
  exact this
theorem x_newA {atype : ArrayType} {t N : Nat} {v : Int32} {a0 : vp_A} (hd : decode M.2.1 pc = .ok (.newarray atype, 2)) (ht : x_tl[t]? = some (newarray.typeOf atype)) (harr : Cond.arrayClass (newarray.typeOf atype) ∈ x_tsl) (hv : ¬ v < 0) (hN : v.toNatClampNeg = N) (hby : N * componentBytes (newarray.typeOf atype) ≤ 536870912) (ha : ∀ c : ClassId, vp_cell c (x_a G a0) = arrV c N (fun _ => defaultValue (newarray.typeOf atype))) (hn : n + 1 ≤ x_N) (hc : cells + 1 ≤ rm.cells) (hs : slots + N ≤ rm.slots)
    (kk : x_W G M rm Qf true (n + 1) (va_up h n (.inl (t, a0))) (cells + 1) (slots + N) lv (.ref n :: st) (pc + 2)) : x_W G M rm Qf true n h cells slots lv (.int v :: st) pc := by
  intro p e s m args below meth c F H locs ls hH hS hl
  obtain ⟨f1, f2, f3, f4, f5, f6, f7, f8, hts, hK⟩ := id F
  refine va_newaK f1 f2 (hts _ harr) (g := F0 m pc ls (.int v :: x_st G st)) rfl hd rfl hv hN hby hc hs (hH.2.2.1 rfl) fun H1 cA e1 z1 o1 hAr hNm => ?_
  have hz := hH.2.2.1 rfl
  have hra := (hK.1.2 t _ (x_ty_at (G := G) ht)).2
  have hra2 : s.vm.findClass ("[" ++ (newarray.typeOf atype).toString) = some (x_c G t) := by cases atype <;> exact hra
  cases hNm.symm.trans hra2
  have := kk p e s m args below meth c F H1 locs ls (hH.new hn (by rw [z1, hz]) (fun q hq => o1 q (by rw [← hz]; exact hq)) (by show H1[_]? = some (vp_cell _ _); rw [ha]; exact e1)) (x_S.new hS (by rw [z1, hz]; exact Nat.le_succ _) (fun q hq => o1 q (by rw [← hz]; exact hq))) hl
  show W p _ e rm s m args below meth c H1 locs (cells + 1) (slots + N) _ (F0 m (pc + 2) ls (.ref (x_B G + n) :: x_st G st))
  rw [← x_ad_new (G := G) (Nat.lt_of_succ_le hn)]
  exact this
theorem x_newQ {index t N : Nat} {v : Int32} {C : String} (hd : decode M.2.1 pc = .ok (.anewarray index, 3)) (ht : x_tl[t]? = some (.object C)) (hao : Cond.arrayOver (.object C) ∈ lw_tbl) (hlk : Cond.classLink M.1.cls index C ∈ x_tsl) (hv : ¬ v < 0) (hN : v.toNatClampNeg = N) (hby : N * 4 ≤ 536870912) (hn : n + 1 ≤ x_N) (hc : cells + 1 ≤ rm.cells) (hs : slots + N ≤ rm.slots)
    (kk : x_W G M rm Qf true (n + 1) (va_up h n (.inl (t, N, .inr (.inr (.inr (.inr (fun _ => none))))))) (cells + 1) (slots + N) lv (.ref n :: st) (pc + 3)) : x_W G M rm Qf true n h cells slots lv (.int v :: st) pc := by
  intro p e s m args below meth c F H locs ls hH hS hl
  obtain ⟨f1, f2, f3, f4, f5, f6, f7, f8, hts, hK⟩ := id F
  subst hN
  refine W.anew f1 f2 f6 (hts _ hlk) (x_aoO hK.2.1 hao) (g := F0 m pc ls (.int v :: x_st G st)) rfl hd rfl hv hby hc hs fun cA kA comp g1 g2 g3 g4 => ?_
  obtain ⟨kA', comp', r1, r2, r3, r4⟩ := (hK.1.2 t _ (x_ty_at (G := G) ht)).2
  cases g1.symm.trans r4
  have hz := hH.2.2.1 rfl
  generalize hH1 : H.push ({ cls := x_c G t, slots := Array.replicate v.toNatClampNeg .null, vm := .none } : Cell) = H1
  have z1 : H1.size = H.size + 1 := by rw [← hH1, Array.size_push]
  have e1 : H1[H.size]? = some (arrV (x_c G t) v.toNatClampNeg (fun _ => .null)) := by rw [← hH1, Array.getElem?_push_size, ← arrV_new]
  have o1 : ∀ q : Nat, q < H.size → H1[q]? = H[q]? := fun q hq => by rw [← hH1, Array.getElem?_push, if_neg (Nat.ne_of_lt hq)]
  rw [hz] at e1
  have := kk p e s m args below meth c F H1 locs ls (hH.new hn z1 o1 e1) (x_S.new hS (by rw [z1]; exact Nat.le_succ _) o1) hl
  show W p _ e rm s m args below meth c H1 locs (cells + 1) _ _ (F0 m (pc + 3) ls (.ref H.size :: x_st G st))
  rw [hz, ← x_ad_new (G := G) (Nat.lt_of_succ_le hn)]
  exact this
theorem x_aast {t a b N ci Nf : Nat} {C : String} {T : u_T} {fs : List Value} {f : Nat → Option Nat} {i : Int32} (hd : decode M.2.1 pc = .ok (.aastore, 1)) (ht : x_tl[t]? = some (.object C)) (ha : a < n) (hc : h a = .inl (t, N, .inr (.inr (.inr (.inr f))))) (hb : b < n) (hv : h b = .inr (ci, fs)) (hcl : vwCl[ci]? = some (C, T, Nf)) (hin : vp_in i N)
    (kk : x_W G M rm Qf ex n (va_up h a (.inl (t, N, .inr (.inr (.inr (.inr (va_up f i.toNatClampNeg (some b)))))))) cells slots lv st (pc + 1)) : x_W G M rm Qf ex n h cells slots lv (.ref b :: .int i :: .ref a :: st) pc := by
  intro p e s m args below meth c F H locs ls hH hS hl
  obtain ⟨f1, f2, f3, f4, f5, f6, f7, f8, hts, hK⟩ := id F
  show W p _ e rm s m args below meth c H locs cells slots _ (F0 m pc ls (.ref (x_ad G b) :: .int i :: .ref (x_ad G a) :: x_st G st))
  rw [x_ad_new (Nat.lt_of_lt_of_le ha hH.1), x_ad_new (Nat.lt_of_lt_of_le hb hH.1)]
  have hlt : i.toNatClampNeg < N := Nat.not_le.mp fun q => hin (Or.inr q)
  have h0 : ¬ i < 0 := fun q => hin (Or.inl q)
  obtain ⟨r', hr', cellV, g1, g2, g3, -⟩ := (hH.at hb hv) 0 _ rfl
  have hcls := (hK.1.1 ci _ hcl).2
  obtain ⟨kA, comp, k1, k2, k3, -⟩ := (hK.1.2 t _ (x_ty_at (G := G) ht)).2
  have hcomp : comp = (x_D G).1 ci := Option.some.inj (k3.symm.trans hcls.1)
  subst hcomp
  obtain ⟨kC, hkC, -⟩ := hcls.2
  refine W.aast f1 f2 ((hH.at ha hc) 0 _ rfl) (fun q h => by cases h) (fun h => by cases h) k1 k2 rfl hkC ⟨h0, by show _ < (arrV _ _ _).slots.size; rw [arrV_size]; exact hlt⟩ g1 (fun q h => by rw [g3] at h; cases h) (by rw [g2]; exact hkC) (by rw [g2]; exact va_assign hcls) rfl rfl hd fun H1 e1 z oq => ?_
  refine kk p e s m args below meth c F H1 _ ls (hH.upd z oq ?_) (x_S.put hS z oq) hl
  show H1[x_B G + a]? = some (vp_cell _ (N, .inr (.inr (.inr (.inr (fun j => (va_up f i.toNatClampNeg (some b) j).map (x_ad G)))))))
  rw [e1]
  show some ((arrV _ _ _).setSlot _ _) = _
  rw [vp_cell_q, arrV_store]
  congr 2
  funext q
  by_cases hq : q = i.toNatClampNeg
  · subst hq
    simp [updV, va_up, va_rf, x_ad_new (Nat.lt_of_lt_of_le hb hH.1)]
  · simp [updV, va_up, hq]
theorem x_callIN {M2 : x_M} {rm2 : Room} {As : List Value} {Po : x_P} {index b : Nat} {host : String} (hd : decode M.2.1 pc = .ok (.invokespecial index, 3)) (hR : x_R G M2 rm2 ex (.ref b :: As) n h Po) (hM : x_cd M2) (hM0 : Cond.code M2.1 M2.2.1 M2.2.2.1 none ∈ x_tsl) (hnm : M2.1.name = "<init>") (hlk : Cond.methodLinkNest M.1.cls index M2.1 host ∈ lw_tbl) (hii : Cond.instanceMethod M2.1 ∈ x_tsl) (hp : x_pl M2) (hn : (parseMethodDescriptor M2.1.desc).map (fun d => d.parameters.length) = some As.length)
    (hrm : x_rm rm rm2 M2) (hce : cells + rm2.cells ≤ rm.cells) (hsl : slots + rm2.slots ≤ rm.slots) (hal : (lg_sl (.ref b :: As)).length ≤ M2.2.2.1) (hw : (st.map fun v => v.category).sum ≤ 8) (hst : stk = As.reverse ++ .ref b :: st)
    (kr : ∀ v n' h', Po (.inl v) n' h' → x_W G M rm Qf ex n' h' (cells + rm2.cells) (slots + rm2.slots) lv (v.toList ++ st) (pc + 3))
    (kt : ∀ Y n' h', Po (.inr Y) n' h' → x_WT G M rm Qf ex n' h' (cells + rm2.cells) (slots + rm2.slots) lv Y pc) : x_W G M rm Qf ex n h cells slots lv stk pc := by
  intro p e s m args below meth c F H locs ls hH hS hl T hT X
  subst hT; subst hst
  obtain ⟨f1, f2, f3, f4, f5, f6, f7, f8, hts, hK⟩ := id F
  have hpl : e.platform.magicAccessors = ({} : Platform).magicAccessors := by rw [X.admits.platform]
  obtain ⟨mk, methM, cM, kP, vm₁, hnamed, hmethM, hcodeM, -, hlocalsM, -, hkP, -, hW₁, hstep⟩ := Steps.initColdArgsNest (e := e) X.here f1 X.warmed hpl f6 hnm hp (x_nM hK.2.1 hlk) (hts _ hii) (hts _ hM0) (f := F0 m pc ls (x_st G (As.reverse ++ .ref b :: st))) rfl (a := x_ad G b) (argsL := As.map (x_v G)) (rest := x_st G st)
    (fun sig z => by rw [z] at hn; rw [List.length_map]; exact (Option.some.inj hn).symm) (by show x_st G (As.reverse ++ .ref b :: st) = _; rw [x_stA]; rfl) (by rw [f2]; exact hd)
  obtain ⟨t, a1, b1⟩ := x_goes hR hM hrm hce hsl hal hw kr kt F (T := T.setVm vm₁) hH hS hl (X.noted hW₁) hd hnamed
  exact ⟨t, hstep _ a1, b1⟩
theorem x_mna {index : Nat} (hd : decode M.2.1 pc = .ok (.multianewarray index 2, 4)) (hlk : Cond.classLink M.1.cls index "[[I" ∈ x_tsl) (harr : Cond.arrayClass .int ∈ x_tsl) (hn : n + 5 ≤ x_N) (hc : cells + 5 ≤ rm.cells) (hs : slots + 4004 ≤ rm.slots)
    (kk : x_W G M rm Qf true (n + 5) (x_h5 h n) (cells + 5) (slots + 4004) lv (.ref n :: st) (pc + 4)) : x_W G M rm Qf true n h cells slots lv (.int 1000 :: .int 4 :: st) pc := by
  intro p e s m args below meth c F H locs ls hH hS hl T hT X
  obtain ⟨f1, f2, f3, f4, f5, f6, f7, f8, hts, hK⟩ := id F
  subst hT
  have hz := hH.2.2.1 rfl
  have n4 : (4 : Int32).toNatClampNeg = 4 := by decide
  have n1000 : (1000 : Int32).toNatClampNeg = 1000 := by decide
  obtain ⟨vm₁, cA, comp, -, fA, fC, -, -, X', step⟩ := X.multianewarray2F f1 f6 (ty := .int) (hts _ hlk) (x_aoA hK.2.1 wr_ao6) (hts _ harr) (g := F0 m pc ls (.int 1000 :: .int 4 :: x_st G st)) rfl (by rw [f2]; exact hd) rfl (by decide) (by decide) (by decide) (by decide) (by decide) rfl rfl hc hs
  have r6 : s.vm.findClass ("[" ++ (FieldType.array .int).toString) = some (x_c G 6) := (hK.1.2 6 _ (x_ty_at (G := G) (t := 6) rfl)).2
  have r0 : s.vm.findClass (FieldType.array .int).toString = some (x_c G 0) := (hK.1.2 0 _ (x_ty_at (G := G) (t := 0) rfl)).2
  cases fA.symm.trans r6
  cases fC.symm.trans r0
  rw [n4, n1000] at X' step
  obtain ⟨g1, g2, -, -⟩ := Jvm.Free.Multi.fill_facts (T.setVm vm₁) (x_c G 6) (x_c G 0) 4 1000 (defaultValue .int) 4
  have hold : ∀ q : Nat, q < T.heap.size → (Jvm.Free.Multi.fill (T.setVm vm₁) (x_c G 6) (x_c G 0) 4 1000 (defaultValue .int) 4).heap[q]? = T.heap[q]? := fun q hq => Jvm.Free.Multi.fill_old (T.setVm vm₁) (x_c G 6) (x_c G 0) 4 1000 (defaultValue .int) (a := q) hq 4
  have hrow : ∀ j : Nat, j < 4 → (Jvm.Free.Multi.fill (T.setVm vm₁) (x_c G 6) (x_c G 0) 4 1000 (defaultValue .int) 4).heap[T.heap.size + 1 + j]? = some (vp_cell (x_c G 0) (1000, .inl (fun _ => 0))) := fun j hj => by
    have := Jvm.Free.Multi.fill_inner (T.setVm vm₁) (x_c G 6) (x_c G 0) 4 1000 (defaultValue .int) 4 j hj
    refine this.trans ?_
    rw [vp_cell_i, show Jvm.Free.Multi.innerC (x_c G 0) 1000 (defaultValue .int) = ({ cls := x_c G 0, slots := Array.replicate 1000 (.int 0), vm := .none } : Cell) from rfl, arrV_new]
  generalize Jvm.Free.Multi.fill (T.setVm vm₁) (x_c G 6) (x_c G 0) 4 1000 (defaultValue .int) 4 = V at X' step g1 g2 hold hrow
  have g1' : V.heap.size = T.heap.size + 1 + 4 := g1
  have g2' : V.heap[T.heap.size]? = some (vp_cell (x_c G 6) (4, .inr (.inr (.inr (.inr (fun i => if i < 4 then some (T.heap.size + 1 + i) else none)))))) := by
    refine g2.trans ?_
    rw [vp_cell_q]
    exact congrArg some (x_outer (x_c G 6) 4 T.heap.size 4)
  have hHV : x_H G true (n + 5) (x_h5 h n) V.heap := by
    refine ⟨hn, by omega, fun _ => by omega, fun k hk => ?_, fun q cell q1 q2 => ?_⟩
    · by_cases e1 : k = n
      · subst e1
        show va_at (x_D G) vwCl (x_B G + k, x_e G (x_h5 h k k)) V.heap
        rw [show x_h5 h k k = .inl (6, 4, .inr (.inr (.inr (.inr (fun i => if i < 4 then some (k + 1 + i) else none))))) from if_pos rfl]
        show V.heap[x_B G + k]? = some (vp_cell (x_c G 6) (4, .inr (.inr (.inr (.inr (fun j => (if j < 4 then some (k + 1 + j) else none).map (x_ad G)))))))
        rw [← hz, g2']
        refine congrArg (fun f : Nat → Option Nat => some (vp_cell (x_c G 6) (4, .inr (.inr (.inr (.inr f)))))) (funext fun j => ?_)
        by_cases hj : j < 4
        · rw [if_pos hj, if_pos hj]
          show some _ = some (x_ad G (k + 1 + j))
          rw [x_ad_new (by have := hn; unfold x_N at *; omega), hz]
          congr 1
          omega
        · rw [if_neg hj, if_neg hj]; rfl
      · by_cases e2 : n < k
        · rw [show x_h5 h n k = .inl (0, 1000, .inl (fun _ => 0)) from (if_neg e1).trans (if_pos ⟨e2, hk⟩)]
          show V.heap[x_B G + k]? = some (vp_cell (x_c G 0) (1000, .inl (fun _ => 0)))
          have := hrow (k - n - 1) (by omega)
          rw [hz, show x_B G + n + 1 + (k - n - 1) = x_B G + k by omega] at this
          exact this
        · rw [show x_h5 h n k = h k from (if_neg e1).trans (if_neg (fun z => e2 z.1))]
          exact (hH.2.2.2.1 k (by omega)).kept (hold _ (by show x_B G + k < _; omega))
    · have hlt := (Array.getElem?_eq_some_iff.mp q2).1
      by_cases e1 : q < T.heap.size
      · rw [hold q e1] at q2; exact hH.2.2.2.2 q cell q1 q2
      · by_cases e2 : q = T.heap.size
        · subst e2
          rw [g2'] at q2; cases q2; rfl
        · have := hrow (q - T.heap.size - 1) (by omega)
          rw [show T.heap.size + 1 + (q - T.heap.size - 1) = q by omega] at this
          rw [this] at q2; cases q2; rfl
  obtain ⟨t, a1, b1⟩ := kk p e s m args below meth c F V.heap locs ls hHV (x_S.new hS (by omega) hold) hl V rfl X'
  refine ⟨t, step t ?_, b1⟩
  have e0 : x_st G (.ref n :: st) = .ref T.heap.size :: x_st G st := by
    show Value.ref (x_ad G n) :: _ = _
    rw [x_ad_new (by unfold x_N at *; omega), hz]; rfl
  rw [e0] at a1
  exact a1
end XN
