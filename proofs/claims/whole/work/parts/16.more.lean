/-! the enum's constants; fields of a nest mate; arraycopy -/
theorem x_ls : ∀ i, i < 36 → Cond.laysStatic "QuestionReader$Kind" (x_kn.getD i "") "LQuestionReader$Kind;" ∈ lw_tbl := fun i hi => match i, hi with
  | 0, _ => wl_60
  | 1, _ => wl_423
  | 2, _ => wl_421
  | 3, _ => wl_404
  | 4, _ => wl_402
  | 5, _ => wl_505
  | 6, _ => wl_514
  | 7, _ => wl_520
  | 8, _ => wl_680
  | 9, _ => wl_491
  | 10, _ => wl_511
  | 11, _ => wl_585
  | 12, _ => wl_587
  | 13, _ => wl_589
  | 14, _ => wl_591
  | 15, _ => wl_593
  | 16, _ => wl_595
  | 17, _ => wl_692
  | 18, _ => wl_694
  | 19, _ => wl_696
  | 20, _ => wl_429
  | 21, _ => wl_522
  | 22, _ => wl_646
  | 23, _ => wl_652
  | 24, _ => wl_654
  | 25, _ => wl_656
  | 26, _ => wl_468
  | 27, _ => wl_460
  | 28, _ => wl_466
  | 29, _ => wl_462
  | 30, _ => wl_464
  | 31, _ => wl_572
  | 32, _ => wl_636
  | 33, _ => wl_529
  | 34, _ => wl_566
  | 35, _ => wl_555
  | _ + 36, h => absurd h (by omega)
theorem x_Zk {G : x_G} {s : State} (hZ : x_Z G s) {i : Nat} (hi : i < 36) : va_Z "QuestionReader$Kind" (x_kn.getD i "") "LQuestionReader$Kind;" (.ref (x_C G i)) (x_A G) s s.heap :=
  (va_Z.moved hZ.2.1.alike (hZ.1.1.1 i hi).1).kept (fun a ha _ => hZ.2.2 a ha)
theorem x_kinj {G : x_G} (h0 : x_0 G) {a b : Nat} (ha : x_kv a = true) (hb : x_kv b = true) (h : x_ad G a = x_ad G b) : a = b := by
  simp only [x_kv, Bool.and_eq_true, decide_eq_true_eq] at ha hb
  unfold x_ad at h
  rw [if_neg (by omega), if_neg (by omega)] at h
  have := h0.1.2.1 (a - x_N) (b - x_N) (by omega) (by omega) h
  omega
section XK
variable {G : x_G} {M : x_M} {rm : Room} {Qf : List Frame → Array Value → State → State → Prop} {ex : Bool} {n : Nat} {h : x_h} {cells slots : Nat} {lv : List (Nat × Value)} {st : List Value} {pc : Nat}
theorem x_gets {i index : Nat} (hd : decode M.2.1 pc = .ok (.getstatic index, 3)) (hi : i < 36) (hl : Cond.fieldLink M.1.cls index "QuestionReader$Kind" (x_kn.getD i "") "LQuestionReader$Kind;" ∈ x_tsl) (k : x_W G M rm Qf ex n h cells slots lv (.ref (x_N + i) :: st) (pc + 3)) : x_W G M rm Qf ex n h cells slots lv st pc := by
  intro p e s m args below meth c F H locs ls hH hS hlv
  obtain ⟨f1, f2, f3, f4, f5, f6, f7, f8, hts, hK⟩ := id F
  have hk := k p e s m args below meth c F H locs ls hH hS hlv
  have e0 : x_ad G (x_N + i) = x_C G i := by unfold x_ad; rw [if_neg (by omega), Nat.add_sub_cancel_left]
  refine va_gets f1 f2 (x_Zk hK.2.1 hi) hS f6 (hts _ hl) (fun _ z => z) hd ?_
  rw [← e0]
  exact hk
theorem x_kacmp_eq {a b : Nat} {off : Int} {tgt : Nat} (hd : decode M.2.1 pc = .ok (.if_acmp .eq off, 3)) (ht : (pc : Int) + off = (tgt : Int)) (ha : x_kv a = true) (hb : x_kv b = true) (kt : a = b → x_W G M rm Qf ex n h cells slots lv st tgt) (kf : ¬ a = b → x_W G M rm Qf ex n h cells slots lv st (pc + 3)) : x_W G M rm Qf ex n h cells slots lv (.ref b :: .ref a :: st) pc :=
  fun p e s m args below meth c F H locs ls hH hS hl => x_acmp_eq hd ht (x_kinj F.2.2.2.2.2.2.2.2.2.2.1.1 ha hb) kt kf p e s m args below meth c F H locs ls hH hS hl
theorem x_kacmp_ne {a b : Nat} {off : Int} {tgt : Nat} (hd : decode M.2.1 pc = .ok (.if_acmp .ne off, 3)) (ht : (pc : Int) + off = (tgt : Int)) (ha : x_kv a = true) (hb : x_kv b = true) (kt : ¬ a = b → x_W G M rm Qf ex n h cells slots lv st tgt) (kf : a = b → x_W G M rm Qf ex n h cells slots lv st (pc + 3)) : x_W G M rm Qf ex n h cells slots lv (.ref b :: .ref a :: st) pc :=
  fun p e s m args below meth c F H locs ls hH hS hl => x_acmp_ne hd ht (x_kinj F.2.2.2.2.2.2.2.2.2.2.1.1 ha hb) kt kf p e s m args below meth c F H locs ls hH hS hl
end XK
theorem x_kvN (i : Nat) (hi : i < 36) : x_kv (x_N + i) = true := by
  simp only [x_kv, Bool.and_eq_true, decide_eq_true_eq]; omega
/-- a Comparison -/
def x_cp (p : Nat) : Bool := (decide (131 ≤ p) && decide (p < 251) && decide ((p - 131) % 2 = 0)) || (decide (267 ≤ p) && decide (p < 387) && decide ((p - 267) % 2 = 0))
theorem x_cp_ok {p : Nat} (h : x_cp p = true) : x_CP p := by
  simp only [x_cp, Bool.and_eq_true, Bool.or_eq_true, decide_eq_true_eq] at h
  rcases h with h | h
  · exact ⟨115, (p - 131) / 2, Or.inl rfl, by omega, by omega⟩
  · exact ⟨251, (p - 267) / 2, Or.inr rfl, by omega, by omega⟩
def x_fn (M : x_M) (index ci k : Nat) (C : String) (T : u_T) (N : Nat) (host : String) : Prop := (∀ w ∈ u_ws C T N, w ∈ x_tsl) ∧ vwCl[ci]? = some (C, T, N) ∧ k < N ∧ Cond.fieldLinkNest M.1.cls index (T k).1 (T k).2.1 (T k).2.2.1 host ∈ lw_tbl
theorem x_nF {G : x_G} {s : State} (hZ : x_Z G s) {a : String} {i : Nat} {b n d h : String} (hw : Cond.fieldLinkNest a i b n d h ∈ lw_tbl) {args : Array Value} : (Cond.fieldLinkNest a i b n d h).before args s = true :=
  va_Nw.use rfl (va_Nw.warmF hZ.2.1 (va_Nw.of rfl (hZ.1.2.2.1 _ hw)))
section XN
variable {G : x_G} {M : x_M} {rm : Room} {Qf : List Frame → Array Value → State → State → Prop} {ex : Bool} {n : Nat} {h : x_h} {cells slots : Nat} {lv : List (Nat × Value)} {st : List Value} {pc : Nat}
theorem x_getfN {index ci k : Nat} {C : String} {T : u_T} {N : Nat} {host : String} {fs : List Value} {v : Value} {a : Nat} (hd : decode M.2.1 pc = .ok (.getfield index, 3)) (hf : x_fn M index ci k C T N host) (ha : a < n) (hc : h a = .inr (ci, fs)) (hv : fs[k]? = some v)
    (kk : x_W G M rm Qf ex n h cells slots lv (v :: st) (pc + 3)) : x_W G M rm Qf ex n h cells slots lv (.ref a :: st) pc := by
  intro p e s m args below meth c F H locs ls hH hS hl
  obtain ⟨f1, f2, f3, f4, f5, f6, f7, f8, hts, hK⟩ := id F
  show W p _ e rm s m args below meth c H locs cells slots _ (F0 m pc ls (.ref (x_ad G a) :: x_st G st))
  rw [x_ad_new (Nat.lt_of_lt_of_le ha hH.1)]
  exact va_getN (D := x_D G) f1 f2 hts hf.1 f6 hK.1 (hH.at ha hc) 0 (fs := fs.map (x_v G)) rfl hf.2.1 k hf.2.2.1 (x_nF hK.2.1 hf.2.2.2) (fun _ z => z) (v := x_v G v) (by rw [List.getElem?_map, hv]; rfl) hd (kk p e s m args below meth c F H locs ls hH hS hl)
theorem x_putfN {index ci k : Nat} {C : String} {T : u_T} {N : Nat} {host : String} {t0 : Nat → FieldType} {fs : List Value} {v : Value} {a : Nat} (hd : decode M.2.1 pc = .ok (.putfield index, 3)) (hf : x_fn M index ci k C T N host) (hb : x_tb T N t0) (hfin : (T k).2.2.2 = false) (ha : a < n) (hc : h a = .inr (ci, fs)) (hlen : k < fs.length) (hn : narrow (t0 k) v = v) (hfit : fits (t0 k) v = true)
    (kk : x_W G M rm Qf ex n (va_up h a (.inr (ci, fs.set k v))) cells slots lv st (pc + 3)) : x_W G M rm Qf ex n h cells slots lv (v :: .ref a :: st) pc := by
  intro p e s m args below meth c F H locs ls hH hS hl
  obtain ⟨f1, f2, f3, f4, f5, f6, f7, f8, hts, hK⟩ := id F
  show W p _ e rm s m args below meth c H locs cells slots _ (F0 m pc ls (x_v G v :: .ref (x_ad G a) :: x_st G st))
  rw [x_ad_new (Nat.lt_of_lt_of_le ha hH.1)]
  have hap := va_apart (own := M.1.cls) hts hf.1 t0 hb.1 hb.2 hK.1 hf.2.1
  obtain ⟨r, h1, cell, q1, q2, q3, q4⟩ := (hH.at ha hc) 0 _ rfl
  have hr : r = (C, T, N) := Option.some.inj (h1.symm.trans hf.2.1)
  subst hr
  obtain ⟨hS1, hfc, kC, hkC, hkind⟩ := hK.1.1 ci _ hf.2.1
  obtain ⟨cf, kf, fi, f, hi, hsl⟩ := hS1 k hf.2.2.1
  have hlay := hts _ (hf.1 _ (u_in_lay hf.2.2.1))
  unfold u_lay at hlay
  rw [if_neg (by rw [hfin]; decide)] at hlay
  have hst := (u_facts hfc hkC (u_lays hts hf.1 hf.2.2.1) hi).1
  have h6 := u_store hfc hkC hkind hlay hi (hb.1 k hf.2.2.1) (x_nar (G := G) hn) (x_fit (G := G) hfit)
  refine va_WputK f1 f2 (f := f) f6 (x_nF hK.2.1 hf.2.2.2) hi hst (by rw [q2]; exact h6) q1 q3 (by rw [hsl]; exact k2_hasslot (q4 k hf.2.2.1)) rfl rfl hd fun H' e1 e2 e3 => ?_
  rw [hsl] at e1 ⊢
  refine kk p e s m args below meth c F H' _ ls (hH.upd e2 e3 ?_) (x_S.put hS e2 e3) hl
  refine ⟨_, hf.2.1, t_OB.to (V := updV (vp_V (fs.map (x_v G))) k (x_v G v)) ⟨_, e1, q2, q3, t_set q4 hap hf.2.2.1 _⟩ (fun j _ => ?_)⟩
  rw [vp_updV_set (by rw [List.length_map]; exact hlen)]
  show vp_V ((fs.map (x_v G)).set k (x_v G v)) j = vp_V ((fs.set k v).map (x_v G)) j
  rw [List.map_set]
end XN
section XNM
variable {G : x_G} {M : x_M} {rm : Room} {Qf : List Frame → Array Value → State → State → Prop} {ex : Bool} {m : x_m} {cells slots : Nat} {lv : List (Nat × Value)} {st : List Value} {pc : Nat}
variable {index ci k p : Nat} {C host : String} {T : u_T} {N : Nat} {tp : List (Nat ⊕ Bool)}
theorem x_gIN (hd : decode M.2.1 pc = .ok (.getfield index, 3)) (hf : x_fn M index ci k C T N host) (hs : x_shape p = .inl (ci, tp)) (hp : p < x_np) (ht : tp[k]? = some (.inr false))
    (kk : x_W G M rm Qf ex x_np (x_hp m) cells slots lv (.int (m.1 p k) :: st) (pc + 3)) : x_W G M rm Qf ex x_np (x_hp m) cells slots lv (.ref p :: st) pc :=
  x_getfN hd hf hp (x_hp_o hs) (x_fs_get ht) kk
theorem x_gCN {c : Nat} (hd : decode M.2.1 pc = .ok (.getfield index, 3)) (hf : x_fn M index ci k C T N host) (hs : x_shape p = .inl (ci, tp)) (hp : p < x_np) (ht : tp[k]? = some (.inl c))
    (kk : x_W G M rm Qf ex x_np (x_hp m) cells slots lv (.ref c :: st) (pc + 3)) : x_W G M rm Qf ex x_np (x_hp m) cells slots lv (.ref p :: st) pc :=
  x_getfN hd hf hp (x_hp_o hs) (x_fs_get ht) kk
theorem x_gRN (hd : decode M.2.1 pc = .ok (.getfield index, 3)) (hf : x_fn M index ci k C T N host) (hs : x_shape p = .inl (ci, tp)) (hp : p < x_np) (ht : tp[k]? = some (.inr true))
    (kk : x_W G M rm Qf ex x_np (x_hp m) cells slots lv (.ref (m.2.2.1 p k) :: st) (pc + 3)) : x_W G M rm Qf ex x_np (x_hp m) cells slots lv (.ref p :: st) pc :=
  x_getfN hd hf hp (x_hp_o hs) (x_fs_get ht) kk
theorem x_pIN {t0 : Nat → FieldType} {v : Int32} (hd : decode M.2.1 pc = .ok (.putfield index, 3)) (hf : x_fn M index ci k C T N host) (hb : x_tb T N t0) (hfin : (T k).2.2.2 = false) (hs : x_shape p = .inl (ci, tp)) (hp : p < x_np) (ht : tp[k]? = some (.inr false)) (hn : narrow (t0 k) (.int v) = .int v ∧ fits (t0 k) (.int v) = true)
    (kk : x_W G M rm Qf ex x_np (x_hp (x_wS m p k v)) cells slots lv st (pc + 3)) : x_W G M rm Qf ex x_np (x_hp m) cells slots lv (.int v :: .ref p :: st) pc :=
  x_putfN hd hf hb hfin hp (x_hp_o hs) (by rw [x_fs, List.length_mapIdx]; exact (List.getElem?_eq_some_iff.mp ht).1) hn.1 hn.2 (by rw [x_up_S v hs ht]; exact kk)
end XNM
theorem f_MD_179 {M : x_M} (h : M.1.cls = "QuestionReaderModel") : x_fn M 179 12 0 R_MQ F_MQ 19 "QuestionReaderModel" := ⟨wu_MQ, rfl, by decide, by rw [h]; exact wl_1067⟩
theorem f_MD_185 {M : x_M} (h : M.1.cls = "QuestionReaderModel") : x_fn M 185 12 1 R_MQ F_MQ 19 "QuestionReaderModel" := ⟨wu_MQ, rfl, by decide, by rw [h]; exact wl_1069⟩
theorem f_MD_188 {M : x_M} (h : M.1.cls = "QuestionReaderModel") : x_fn M 188 12 2 R_MQ F_MQ 19 "QuestionReaderModel" := ⟨wu_MQ, rfl, by decide, by rw [h]; exact wl_1071⟩
theorem f_MD_191 {M : x_M} (h : M.1.cls = "QuestionReaderModel") : x_fn M 191 12 3 R_MQ F_MQ 19 "QuestionReaderModel" := ⟨wu_MQ, rfl, by decide, by rw [h]; exact wl_1073⟩
theorem f_MD_194 {M : x_M} (h : M.1.cls = "QuestionReaderModel") : x_fn M 194 12 12 R_MQ F_MQ 19 "QuestionReaderModel" := ⟨wu_MQ, rfl, by decide, by rw [h]; exact wl_1087⟩
theorem f_MD_196 {M : x_M} (h : M.1.cls = "QuestionReaderModel") : x_fn M 196 12 11 R_MQ F_MQ 19 "QuestionReaderModel" := ⟨wu_MQ, rfl, by decide, by rw [h]; exact wl_1085⟩
theorem f_MD_217 {M : x_M} (h : M.1.cls = "QuestionReaderModel") : x_fn M 217 12 13 R_MQ F_MQ 19 "QuestionReaderModel" := ⟨wu_MQ, rfl, by decide, by rw [h]; exact wl_1088⟩
theorem f_MD_220 {M : x_M} (h : M.1.cls = "QuestionReaderModel") : x_fn M 220 12 14 R_MQ F_MQ 19 "QuestionReaderModel" := ⟨wu_MQ, rfl, by decide, by rw [h]; exact wl_1090⟩
theorem f_MD_223 {M : x_M} (h : M.1.cls = "QuestionReaderModel") : x_fn M 223 12 15 R_MQ F_MQ 19 "QuestionReaderModel" := ⟨wu_MQ, rfl, by decide, by rw [h]; exact wl_1092⟩
theorem f_MD_226 {M : x_M} (h : M.1.cls = "QuestionReaderModel") : x_fn M 226 12 16 R_MQ F_MQ 19 "QuestionReaderModel" := ⟨wu_MQ, rfl, by decide, by rw [h]; exact wl_1094⟩
theorem f_MD_235 {M : x_M} (h : M.1.cls = "QuestionReaderModel") : x_fn M 235 12 17 R_MQ F_MQ 19 "QuestionReaderModel" := ⟨wu_MQ, rfl, by decide, by rw [h]; exact wl_1096⟩
theorem f_MD_238 {M : x_M} (h : M.1.cls = "QuestionReaderModel") : x_fn M 238 12 18 R_MQ F_MQ 19 "QuestionReaderModel" := ⟨wu_MQ, rfl, by decide, by rw [h]; exact wl_1098⟩
theorem f_MD_240 {M : x_M} (h : M.1.cls = "QuestionReaderModel") : x_fn M 240 12 4 R_MQ F_MQ 19 "QuestionReaderModel" := ⟨wu_MQ, rfl, by decide, by rw [h]; exact wl_1074⟩
theorem f_MD_243 {M : x_M} (h : M.1.cls = "QuestionReaderModel") : x_fn M 243 12 5 R_MQ F_MQ 19 "QuestionReaderModel" := ⟨wu_MQ, rfl, by decide, by rw [h]; exact wl_1076⟩
theorem f_MD_249 {M : x_M} (h : M.1.cls = "QuestionReaderModel") : x_fn M 249 12 7 R_MQ F_MQ 19 "QuestionReaderModel" := ⟨wu_MQ, rfl, by decide, by rw [h]; exact wl_1079⟩
theorem f_MD_252 {M : x_M} (h : M.1.cls = "QuestionReaderModel") : x_fn M 252 12 6 R_MQ F_MQ 19 "QuestionReaderModel" := ⟨wu_MQ, rfl, by decide, by rw [h]; exact wl_1077⟩
theorem f_MD_255 {M : x_M} (h : M.1.cls = "QuestionReaderModel") : x_fn M 255 12 8 R_MQ F_MQ 19 "QuestionReaderModel" := ⟨wu_MQ, rfl, by decide, by rw [h]; exact wl_1081⟩
theorem f_MD_264 {M : x_M} (h : M.1.cls = "QuestionReaderModel") : x_fn M 264 12 9 R_MQ F_MQ 19 "QuestionReaderModel" := ⟨wu_MQ, rfl, by decide, by rw [h]; exact wl_1082⟩
theorem f_MD_267 {M : x_M} (h : M.1.cls = "QuestionReaderModel") : x_fn M 267 12 10 R_MQ F_MQ 19 "QuestionReaderModel" := ⟨wu_MQ, rfl, by decide, by rw [h]; exact wl_1084⟩
