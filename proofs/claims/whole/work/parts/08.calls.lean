/-! ends, and calls: the callee's frame is entered and left -/
theorem x_imp {p : Program} {l : Launch} {e : Env} {R : Room} {s : State} {m : MethodId} {args : Array Value} {below : List Frame} {meth : Method} {c : Code} {H : Heap} {locs : List Loc} {cells slots : Nat} {Q Q' : State → Prop} {g : JFrame} (hq : ∀ t, Q t → Q' t) (w : W p l e R s m args below meth c H locs cells slots Q g) : W p l e R s m args below meth c H locs cells slots Q' g := by
  intro T hT X
  obtain ⟨t, a, b⟩ := w T hT X
  exact ⟨t, a, hq t b⟩
theorem x_back {tb : Tables} {e : Env} {mid below : List Frame} {a b : State} (h : Steps tb e (mid ++ below) a b) : Steps tb e below a b := by
  obtain ⟨n, hn, w⟩ := h
  exact ⟨n, hn, fun k hk => (w k hk).weaken⟩
section XE
variable {G : x_G} {M : x_M} {rm : Room} {ex : Bool} {n : Nat} {h : x_h} {cells slots : Nat} {lv : List (Nat × Value)} {st : List Value} {pc : Nat} {Po : x_P}
theorem x_iret {ty : FieldType} {v : Int32} (hd : decode M.2.1 pc = .ok (.ireturn, 1)) (hr : M.2.2.2.1 = some ty) (hn : narrow ty (.int v) = .int v) (hc : cells ≤ rm.cells) (hs : slots ≤ rm.slots) (hp : Po (.inl (some (.int v))) n h) : x_W G M rm (x_Q G rm ex Po) ex n h cells slots lv [.int v] pc := by
  intro p e s m args below meth c F H locs ls hH hS hl
  obtain ⟨f1, f2, f3, f4, f5, f6, f7, f8, hts, hK⟩ := id F
  refine W.widen hc hs ?_
  refine x_imp (fun t q => ?_) (W.zret (Qc := fun _ _ o t => o = .returned (some (.int v)) ∧ t.heap = H) (free := x_A G) f1 f2 (f4.trans hr) hn (fun t ht _ => ⟨rfl, ht⟩) hS.2.2 hd f7)
  obtain ⟨o, q1, q2, ⟨rfl, q4⟩, L, ⟨-, q5, q6⟩, q7⟩ := q
  exact ⟨q1, q5, ⟨L, q6, q7⟩, hS.F q4, Or.inl ⟨some (.int v), n, h, q2, hp, by rw [q4]; exact hH⟩⟩
theorem x_lret {v : Int64} (hd : decode M.2.1 pc = .ok (.lreturn, 1)) (hr : M.2.2.2.1 = some .long) (hc : cells ≤ rm.cells) (hs : slots ≤ rm.slots) (hp : Po (.inl (some (.long v))) n h) : x_W G M rm (x_Q G rm ex Po) ex n h cells slots lv [.long v] pc := by
  intro p e s m args below meth c F H locs ls hH hS hl
  obtain ⟨f1, f2, f3, f4, f5, f6, f7, f8, hts, hK⟩ := id F
  refine W.widen hc hs ?_
  refine x_imp (fun t q => ?_) (W.lret (Qc := fun _ _ o t => o = .returned (some (.long v)) ∧ t.heap = H) (free := x_A G) f1 f2 (f4.trans hr) (fun t ht _ => ⟨rfl, ht⟩) hS.2.2 hd f7)
  obtain ⟨o, q1, q2, ⟨rfl, q4⟩, L, ⟨-, q5, q6⟩, q7⟩ := q
  exact ⟨q1, q5, ⟨L, q6, q7⟩, hS.F q4, Or.inl ⟨some (.long v), n, h, q2, hp, by rw [q4]; exact hH⟩⟩
theorem x_vret (hd : decode M.2.1 pc = .ok (.return_, 1)) (hr : M.2.2.2.1 = none) (hc : cells ≤ rm.cells) (hs : slots ≤ rm.slots) (hp : Po (.inl none) n h) : x_W G M rm (x_Q G rm ex Po) ex n h cells slots lv [] pc := by
  intro p e s m args below meth c F H locs ls hH hS hl
  obtain ⟨f1, f2, f3, f4, f5, f6, f7, f8, hts, hK⟩ := id F
  refine W.widen hc hs ?_
  refine x_imp (fun t q => ?_) (W.vret (Qc := fun _ _ o t => o = .returned none ∧ t.heap = H) (free := x_A G) f1 f2 (f4.trans hr) (fun t ht _ => ⟨rfl, ht⟩) hS.2.2 hd f7)
  obtain ⟨o, q1, q2, ⟨rfl, q4⟩, L, ⟨-, q5, q6⟩, q7⟩ := q
  exact ⟨q1, q5, ⟨L, q6, q7⟩, hS.F q4, Or.inl ⟨none, n, h, q2, hp, by rw [q4]; exact hH⟩⟩
theorem x_aret {rt : FieldType} {k : Nat} (hd : decode M.2.1 pc = .ok (.areturn, 1)) (hr : M.2.2.2.1 = some rt) (hrt : (∃ n, rt = .object n) ∨ ∃ t, rt = .array t) (hc : cells ≤ rm.cells) (hs : slots ≤ rm.slots) (hp : Po (.inl (some (.ref k))) n h) : x_W G M rm (x_Q G rm ex Po) ex n h cells slots lv [.ref k] pc := by
  intro p e s m args below meth c F H locs ls hH hS hl
  obtain ⟨f1, f2, f3, f4, f5, f6, f7, f8, hts, hK⟩ := id F
  refine W.widen hc hs ?_
  refine x_imp (fun t q => ?_) (W.aret (v := .ref (x_ad G k)) (Qc := fun _ _ o t => o = .returned (some (.ref (x_ad G k))) ∧ t.heap = H) (free := x_A G) f1 f2 (f4.trans hr) hrt (Or.inr ⟨_, rfl⟩) (fun t ht _ => ⟨rfl, ht⟩) hS.2.2 hd f7)
  obtain ⟨o, q1, q2, ⟨rfl, q4⟩, L, ⟨-, q5, q6⟩, q7⟩ := q
  exact ⟨q1, q5, ⟨L, q6, q7⟩, hS.F q4, Or.inl ⟨some (.ref k), n, h, q2, hp, by rw [q4]; exact hH⟩⟩
theorem x_sub {Qf : List Frame → Array Value → State → State → Prop} {lv2 : List (Nat × Value)} (hq : ∀ q ∈ lv2, q ∈ lv) (k : x_W G M rm Qf ex n h cells slots lv2 st pc) : x_W G M rm Qf ex n h cells slots lv st pc :=
  fun p e s m args below meth c F H locs ls hH hS hl => k p e s m args below meth c F H locs ls hH hS ⟨hl.1, hl.2.1, fun q h => by
    obtain ⟨r, hr, rfl⟩ := List.mem_map.mp h
    exact hl.2.2 _ (List.mem_map.mpr ⟨r, hq r hr, rfl⟩)⟩
theorem x_wide {Qf : List Frame → Array Value → State → State → Prop} {c1 s1 : Nat} (h1 : cells ≤ c1) (h2 : slots ≤ s1) (k : x_W G M rm Qf ex n h c1 s1 lv st pc) : x_W G M rm Qf ex n h cells slots lv st pc :=
  fun p e s m args below meth c F H locs ls hH hS hl => W.widen h1 h2 (k p e s m args below meth c F H locs ls hH hS hl)
end XE
theorem x_args (G : x_G) : ∀ (As : List Value) (i : Nat), lv_args i (As.map (x_v G)) = x_lv G (lv_args i As)
  | [], _ => rfl
  | v :: r, i => by
    show (i, x_v G v) :: lv_args (if (x_v G v).category = 2 then i + 2 else i + 1) (r.map (x_v G)) = (i, x_v G v) :: x_lv G (lv_args (if v.category = 2 then i + 2 else i + 1) r)
    rw [x_cat, x_args G r]
theorem x_sl (G : x_G) : ∀ (As : List Value), (lg_sl (As.map (x_v G))).length = (lg_sl As).length
  | [] => rfl
  | v :: r => by
    have ih := x_sl G r
    simp only [lg_sl, List.map_cons, List.flatMap_cons, List.length_append] at ih ⊢
    rw [x_cat, ih]
    by_cases hv : v.category = 2 <;> simp [hv]
theorem x_K.next {G : x_G} {s U : State} {locs : List Loc} (hK : x_K G s) (hW : s.WarmedH U.vm) (hS : va_S (x_A G) s.heap U.heap locs) (hN : x_ns G U.heap) : x_K G U :=
  ⟨va_K.moved hW.alike hK.1, x_Z_next hK.2.1 hW (fun q hq => hS.2.1 q (Nat.lt_of_lt_of_le hq hK.2.2.1) (Nat.not_le.mpr hq)), Nat.le_trans hK.2.2.1 hS.1, hN⟩
/-- a callee, entered and left -/
def x_cd (M : x_M) : Prop := plainFor M.1 = true ∧ ((Cond.code M.1 M.2.1 M.2.2.1 M.2.2.2.1 ∈ x_tsl ∧ M.2.2.2.2 = []) ∨ Cond.codeWith M.1 M.2.1 M.2.2.1 M.2.2.2.1 M.2.2.2.2 ∈ x_tsl)
theorem x_cd.spec {M : x_M} (hM : x_cd M) {args : Array Value} {s : State} (hts : ∀ w ∈ x_tsl, w.before args s = true) : ∃ (mk : MethodId) (methk : Method) (ck : Code), s.methodNamed? M.1 = some mk ∧ s.vm.method? mk = some methk ∧ methk.code = some ck ∧ ck.code = M.2.1 ∧ ck.maxLocals = M.2.2.1 ∧
    ck.exceptionTable.toList.map (fun h => (h.startPc, h.endPc, h.handlerPc, h.catchType)) = M.2.2.2.2 ∧ methk.sig.returnType = M.2.2.2.1 ∧ methk.locks = false ∧ parseMethodDescriptor M.1.desc = some methk.sig := by
  rcases hM.2 with ⟨h, h0⟩ | h
  · have hc := hts _ h
    obtain ⟨mk, hn⟩ := Cond.code_named hc
    obtain ⟨meth, c, h1, h2, h3, h4, h5, h6, h7, h8⟩ := Cond.code_spec hn hc
    refine ⟨mk, meth, c, hn, h1, h2, h3, h4, ?_, h5, h6, h8⟩
    rw [h0]
    have : c.exceptionTable.toList = [] := by simpa using h7
    rw [this]; rfl
  · obtain ⟨mk, meth, c, h1, h2, h3, h4, h5, h6, h7, h8, h9⟩ := Cond.codeWith_spec (hts _ h)
    exact ⟨mk, meth, c, h1, h2, h3, h4, h5, h6, h7, h8, h9⟩
set_option maxHeartbeats 1000000 in
theorem x_enter {G : x_G} {M2 : x_M} {rm rm2 : Room} {ex : Bool} {n : Nat} {h : x_h} {Po : x_P} {As : List Value} (hR : x_R G M2 rm2 ex As n h Po) (hM : x_cd M2)
    {p : Program} {e : Env} {s : State} {m : MethodId} {args : Array Value} {below : List Frame} {meth : Method} {c : Code} {T : State} {locs : List Loc} {cells slots : Nat} (X : Stand p (x_l G) e rm s m args below meth c T locs cells slots)
    (hexec : p.tables.exec = Jvm.exec) (hts : ∀ w ∈ x_tsl, w.before args s = true) (hK : x_K G s) (hH : x_H G ex n h T.heap) (hS : va_S (x_A G) s.heap T.heap locs)
    {g : JFrame} (hg : g.method = m) (hsize : g.locals.size = c.maxLocals) {ig : Instr} {len : Nat} (hdg : decode c.code g.pc = .ok (ig, len)) (hw : 2 * g.monitorRoom + (g.stack.map fun v => v.category).sum ≤ 8)
    {mk : MethodId} (hnk : s.methodNamed? M2.1 = some mk) (hrm : rm2.frames + 1 ≤ rm.frames ∧ 8 + (M2.2.2.1 + 11) + rm2.locals ≤ rm.locals) (hce : cells + rm2.cells ≤ rm.cells) (hsl : slots + rm2.slots ≤ rm.slots) (hal : (lg_sl As).length ≤ M2.2.2.1) :
    ∃ (T' : State) (L : List Loc), Stand p (x_l G) e rm s m args below meth c T' (locs ++ L) (cells + rm2.cells) (slots + rm2.slots) ∧ va_S (x_A G) s.heap T'.heap (locs ++ L) ∧
      ((∃ v n' h', Po (.inl v) n' h' ∧ x_H G ex n' h' T'.heap ∧ ∀ acts, Steps p.tables e below (doInvoke e (T.setTop g) acts mk (As.map (x_v G)).toArray).1 (T'.setTop { g with pc := g.pc + len, stack := (v.map (x_v G)).toList ++ g.stack })) ∨
       (∃ a Y n' h' cell, Po (.inr Y) n' h' ∧ x_H G ex n' h' T'.heap ∧ T'.heap[a]? = some cell ∧ cell.vm = .none ∧ s.vm.findClass Y = some cell.cls ∧ ∀ acts, Steps p.tables e below (doInvoke e (T.setTop g) acts mk (As.map (x_v G)).toArray).1 ((T'.setTop g).pushFrame (.throwing a)))) := by
  obtain ⟨mk', methk, ck, n1, n2, n3, n4, n5, n6, n7, n8, n9⟩ := hM.spec hts
  cases hnk.symm.trans n1
  have hmT : T.vm.method? mk = some methk := by rw [X.warmed.alike.method?]; exact n2
  have hnT : T.methodNamed? M2.1 = some mk := X.named hnk
  obtain ⟨Y, hdo⟩ := X.into hg hsize hdg (As.map (x_v G)).toArray (R' := rm2) hmT n3 n8 (State.plainMethod.of_named hM.1 hnT hmT) hrm.1 (by rw [n5]; omega) hce hsl
  generalize hU : T.calling g mk (As.map (x_v G)).toArray = U at Y
  have hUh : U.heap = T.heap := by rw [← hU]; rfl
  have hUv : U.vm = T.vm := by rw [← hU]; rfl
  have hWU : s.WarmedH U.vm := by rw [hUv]; exact X.warmed
  have hSU : va_S (x_A G) s.heap U.heap locs := by rw [hUh]; exact hS
  have hF : x_F G M2 p U mk (As.map (x_v G)).toArray methk ck :=
    ⟨hexec, n4, n5, n7, n6, by rw [hUv, X.warmed.alike.findClass]; exact findClass_of_methodNamed n1, n8, (name_of_methodNamed n1 n2).1, fun w hw => word_at hWU (x_good w hw) (hts w hw), hK.next hWU hSU (by rw [hUh]; exact hH.2.2.2.2)⟩
  have hent := lv_entry (As.map (x_v G)) (n := M2.2.2.1) (by rw [x_sl]; exact hal)
  rw [x_args] at hent
  generalize hV : (T.setTop g).pushFrame (.java (entryFrame mk (As.map (x_v G)).toArray ck.maxLocals)) = V at Y hdo
  have hVh : V.heap = U.heap := by rw [← hV, hUh]; rfl
  obtain ⟨t, hst, hq⟩ := hR p e U mk (As.map (x_v G)).toArray (.java g :: below) methk ck hF U.heap [] _ (by rw [hUh]; exact hH) va_S.rf hent V hVh Y
  rw [n5, lg_entry_eq] at hdo
  obtain ⟨q1, q2, ⟨L, q3, q4⟩, q5, q6⟩ := hq
  have hS' : ∀ T' : State, T'.heap = t.heap → va_S (x_A G) s.heap T'.heap (locs ++ L) := fun T' e1 => by
    refine ⟨by rw [e1]; exact Nat.le_trans hSU.1 q5.1, fun q h1 h2 => ?_, fun q hq => ?_⟩
    · rw [e1, q5.2 q (Nat.lt_of_lt_of_le h1 hSU.1) h2]; exact hSU.2.1 q h1 h2
    · rcases List.mem_append.mp hq with z | z
      · exact hS.2.2 q z
      · exact q4 q z
  rcases q6 with ⟨v, n', h', r1, r2, r3⟩ | ⟨a, Y', n', h', cell, r1, r2, r3, r4, r5, r6⟩
  · subst hU
    obtain ⟨T', X', -, -, ht⟩ := X.outOf hg hdg r1 q2 q3
    have hth : T'.heap = t.heap := by rw [ht]; rfl
    refine ⟨T', L, X', hS' T' hth, Or.inl ⟨v, n', h', r2, by rw [hth]; exact r3, fun acts => ?_⟩⟩
    rw [hdo acts, ← ht]
    exact x_back (mid := [.java g]) hst
  · subst hU
    obtain ⟨T', X', -, -, ht⟩ := X.outOfThrown hg r1 q2 q3
    have hth : T'.heap = t.heap := by rw [ht]; rfl
    refine ⟨T', L, X', hS' T' hth, Or.inr ⟨a, Y', n', h', cell, r2, by rw [hth]; exact r3, by rw [hth]; exact r4, r5, by rw [hUv, X.warmed.alike.findClass] at r6; exact r6, fun acts => ?_⟩⟩
    rw [hdo acts, ← ht]
    exact x_back (mid := [.java g]) hst
