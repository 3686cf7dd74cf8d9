/-! the enum's row of constants and their keys; arraycopy over the memory -/
theorem x_TA {G : x_G} {s : State} (hZ : x_Z G s) : va_T (.object "QuestionReader$Kind") (x_C G 36) 36 (fun j => .ref (x_C G j)) (x_A G) s s.heap :=
  (va_T.moved hZ.2.1.alike hZ.1.1.2.2.1.2).kept (fun a ha _ => hZ.2.2 a ha)
theorem x_KF {G : x_G} {s : State} (hZ : x_Z G s) {i : Nat} (hi : i < 36) : va_OF "QuestionReader$Kind" "key" "J" (.long (x_kk.getD i 0)) (x_C G i) (x_A G) s s.heap :=
  (va_OF.moved hZ.2.1.alike (hZ.1.1.1 i hi).2).kept (fun a ha _ => hZ.2.2 a ha)
section XKR
variable {G : x_G} {M : x_M} {rm : Room} {Qf : List Frame → Array Value → State → State → Prop} {ex : Bool} {n : Nat} {h : x_h} {cells slots : Nat} {lv : List (Nat × Value)} {st : List Value} {pc index : Nat}
theorem x_adN {G : x_G} (i : Nat) : x_ad G (x_N + i) = x_C G i := by unfold x_ad; rw [if_neg (by omega), Nat.add_sub_cancel_left]
theorem x_getsA (hd : decode M.2.1 pc = .ok (.getstatic index, 3)) (hl : Cond.fieldLink M.1.cls index "QuestionReader$Kind" "ALL" "[LQuestionReader$Kind;" ∈ x_tsl) (k : x_W G M rm Qf ex n h cells slots lv (.ref (x_N + 36) :: st) (pc + 3)) : x_W G M rm Qf ex n h cells slots lv st pc := by
  intro p e s m args below meth c F H locs ls hH hS hlv
  obtain ⟨f1, f2, f3, f4, f5, f6, f7, f8, hts, hK⟩ := id F
  have hk := k p e s m args below meth c F H locs ls hH hS hlv
  have hz : va_Z "QuestionReader$Kind" "ALL" "[LQuestionReader$Kind;" (.ref (x_C G 36)) (x_A G) s s.heap := (va_Z.moved hK.2.1.2.1.alike hK.2.1.1.1.2.2.1.1).kept (fun a ha _ => hK.2.1.2.2 a ha)
  refine va_gets f1 f2 hz hS f6 (hts _ hl) (fun _ z => z) hd ?_
  rw [← x_adN (G := G)]
  exact hk
theorem x_alenA (hd : decode M.2.1 pc = .ok (.arraylength, 1)) (k : x_W G M rm Qf ex n h cells slots lv (.int 36 :: st) (pc + 1)) : x_W G M rm Qf ex n h cells slots lv (.ref (x_N + 36) :: st) pc := by
  intro p e s m args below meth c F H locs ls hH hS hlv
  obtain ⟨f1, f2, f3, f4, f5, f6, f7, f8, hts, hK⟩ := id F
  have hk := k p e s m args below meth c F H locs ls hH hS hlv
  obtain ⟨cell, h1, h2, h3, h4, h5, h6, h7⟩ := (x_TA hK.2.1).kept hS.2.1
  show W p _ e rm s m args below meth c H locs cells slots _ (F0 m pc ls (.ref (x_ad G (x_N + 36)) :: x_st G st))
  rw [x_adN]
  exact W.alen f1 f2 h1 h2 h5 rfl rfl hd hk
theorem x_aaldK {i : Int32} (hd : decode M.2.1 pc = .ok (.aaload, 1)) (hin : x_ix i 36 = true) (k : x_W G M rm Qf ex n h cells slots lv (.ref (x_N + i.toNatClampNeg) :: st) (pc + 1)) : x_W G M rm Qf ex n h cells slots lv (.int i :: .ref (x_N + 36) :: st) pc := by
  intro p e s m args below meth c F H locs ls hH hS hlv
  obtain ⟨f1, f2, f3, f4, f5, f6, f7, f8, hts, hK⟩ := id F
  have hk := k p e s m args below meth c F H locs ls hH hS hlv
  obtain ⟨cell, h1, h2, h3, h4, h5, h6, h7⟩ := (x_TA hK.2.1).kept hS.2.1
  have hlt := x_ix_lt hin
  have hi0 := x_ix_ok hin
  show W p _ e rm s m args below meth c H locs cells slots _ (F0 m pc ls (.int i :: .ref (x_ad G (x_N + 36)) :: x_st G st))
  rw [x_adN]
  refine W.aald (v := .ref (x_C G i.toNatClampNeg)) (ty := .object "QuestionReader$Kind") f1 f2 h1 h2 rfl h3 (fun z => ?_) (h6 _ hlt) rfl rfl hd ?_
  · rcases z with z | z
    · exact hi0 (Or.inl z)
    · omega
  · show W p _ e rm s m args below meth c H locs cells slots _ (F0 m (pc + 1) ls (.ref (x_C G i.toNatClampNeg) :: x_st G st))
    rw [← x_adN (G := G) i.toNatClampNeg]
    exact hk
theorem x_gKey {a : Nat} (hd : decode M.2.1 pc = .ok (.getfield index, 3)) (hl : Cond.fieldLink M.1.cls index "QuestionReader$Kind" "key" "J" ∈ x_tsl) (ha : x_kv a = true) (k : x_W G M rm Qf ex n h cells slots lv (.long (x_kk.getD (a - x_N) 0) :: st) (pc + 3)) : x_W G M rm Qf ex n h cells slots lv (.ref a :: st) pc := by
  intro p e s m args below meth c F H locs ls hH hS hlv
  obtain ⟨f1, f2, f3, f4, f5, f6, f7, f8, hts, hK⟩ := id F
  have hk := k p e s m args below meth c F H locs ls hH hS hlv
  simp only [x_kv, Bool.and_eq_true, decide_eq_true_eq] at ha
  obtain ⟨cf, k', fi, f, cell, h1, h2, h3, h4, h5, h6⟩ := (x_KF hK.2.1 (i := a - x_N) (by omega)).kept hS.2.1
  show W p _ e rm s m args below meth c H locs cells slots _ (F0 m pc ls (.ref (x_ad G a) :: x_st G st))
  rw [show x_ad G a = x_C G (a - x_N) by unfold x_ad; rw [if_neg (by omega)]]
  exact W.getf f1 f2 f6 (hts _ hl) h1 h2 h3 h4 (v := .long (x_kk.getD (a - x_N) 0)) h5 rfl rfl hd hk
end XKR
section XCM
variable {G : x_G} {M : x_M} {rm : Room} {Qf : List Frame → Array Value → State → State → Prop} {ex : Bool} {m : x_m} {cells slots : Nat} {lv : List (Nat × Value)} {st : List Value} {pc index : Nat}
theorem x_cpM {p0 p1 t l0 l1 : Nat} {ty : FieldType} {sp dp k : Int32} (hd : decode M.2.1 pc = .ok (.invokestatic index, 3)) (hlk : Cond.methodLink M.1.cls index arraycopyName ∈ x_tsl) (ht : x_tl[t]? = some ty) (hprim : refKind ty = false) (hs0 : x_shape p0 = .inr (.inl (t, l0))) (hp0 : p0 < x_np) (hs1 : x_shape p1 = .inr (.inl (t, l1))) (hp1 : p1 < x_np) (hg : x_cg sp dp k l0 l1 = true) (hfit : ∀ i, i < k.toNatClampNeg → fits ty (.int (m.2.1 p0 (sp.toNatClampNeg + i))) = true)
    (hfr : 1 ≤ rm.frames) (hlo : (st.map fun v => v.category).sum + (nativeFrameWords "java/lang/System" "arraycopy" 5 + 11) ≤ rm.locals)
    (kk : x_W G M rm Qf ex x_np (x_hp (x_wC m p0 p1 sp.toNatClampNeg dp.toNatClampNeg k.toNatClampNeg)) cells slots lv st (pc + 3)) : x_W G M rm Qf ex x_np (x_hp m) cells slots lv (.int k :: .int dp :: .ref p1 :: .int sp :: .ref p0 :: st) pc :=
  x_copyH hd hlk w_720 w_719 w_21 ht hprim hp0 (x_hp_i hs0) hp1 (x_hp_i hs1) hg hfit hfr hlo (by rw [x_up_C _ _ _ hs1]; exact kk)
end XCM
theorem x_cb_ok {m : x_m} {a0 : Nat} {sp n : Int32} (h : x_cb m a0 sp n = true) : ∀ i, i < n.toNatClampNeg → fits .byte (.int (m.2.1 a0 (sp.toNatClampNeg + i))) = true :=
  fun i hi => List.all_eq_true.mp h i (List.mem_range.mpr hi)
