/-! the rows of fields, arrays, ends -/
def x_fl (M : x_M) (index ci k : Nat) (C : String) (T : u_T) (N : Nat) : Prop := (∀ w ∈ u_ws C T N, w ∈ x_tsl) ∧ vwCl[ci]? = some (C, T, N) ∧ k < N ∧ Cond.fieldLink M.1.cls index (T k).1 (T k).2.1 (T k).2.2.1 ∈ x_tsl
def x_tb (T : u_T) (N : Nat) (t0 : Nat → FieldType) : Prop := (∀ k, k < N → parseFieldDescriptor (T k).2.2.1 = some (t0 k)) ∧ ∀ a, a < N → ∀ b, b < N → a ≠ b → (T a).2.1 ≠ (T b).2.1
theorem x_nar {G : x_G} {ty : FieldType} {v : Value} (h : narrow ty v = v) : narrow ty (x_v G v) = x_v G v := by
  cases v <;> first | exact h | (cases ty <;> rfl)
theorem x_fit {G : x_G} {ty : FieldType} {v : Value} (h : fits ty v = true) : fits ty (x_v G v) = true := by
  cases v <;> first | exact h | (cases ty <;> first | rfl | exact h)
section XH
variable {G : x_G} {M : x_M} {rm : Room} {Qf : List Frame → Array Value → State → State → Prop} {ex : Bool} {n : Nat} {h : x_h} {cells slots : Nat} {lv : List (Nat × Value)} {st : List Value} {pc : Nat}
theorem x_getf {index ci k : Nat} {C : String} {T : u_T} {N : Nat} {fs : List Value} {v : Value} {a : Nat} (hd : decode M.2.1 pc = .ok (.getfield index, 3)) (hf : x_fl M index ci k C T N) (ha : a < n) (hc : h a = .inr (ci, fs)) (hv : fs[k]? = some v)
    (kk : x_W G M rm Qf ex n h cells slots lv (v :: st) (pc + 3)) : x_W G M rm Qf ex n h cells slots lv (.ref a :: st) pc := by
  intro p e s m args below meth c F H locs ls hH hS hl
  obtain ⟨f1, f2, f3, f4, f5, f6, f7, f8, hts, hK⟩ := id F
  show W p _ e rm s m args below meth c H locs cells slots _ (F0 m pc ls (.ref (x_ad G a) :: x_st G st))
  rw [x_ad_new (Nat.lt_of_lt_of_le ha hH.1)]
  exact va_get (D := x_D G) f1 f2 hts hf.1 f6 hK.1 (hH.at ha hc) 0 (fs := fs.map (x_v G)) rfl hf.2.1 k hf.2.2.1 (hts _ hf.2.2.2) (fun _ z => z) (v := x_v G v) (by rw [List.getElem?_map, hv]; rfl) hd (kk p e s m args below meth c F H locs ls hH hS hl)
theorem x_putf {index ci k : Nat} {C : String} {T : u_T} {N : Nat} {t0 : Nat → FieldType} {fs : List Value} {v : Value} {a : Nat} (hd : decode M.2.1 pc = .ok (.putfield index, 3)) (hf : x_fl M index ci k C T N) (hb : x_tb T N t0) (hfin : (T k).2.2.2 = false) (ha : a < n) (hc : h a = .inr (ci, fs)) (hlen : k < fs.length) (hn : narrow (t0 k) v = v) (hfit : fits (t0 k) v = true)
    (kk : x_W G M rm Qf ex n (va_up h a (.inr (ci, fs.set k v))) cells slots lv st (pc + 3)) : x_W G M rm Qf ex n h cells slots lv (v :: .ref a :: st) pc := by
  intro p e s m args below meth c F H locs ls hH hS hl
  obtain ⟨f1, f2, f3, f4, f5, f6, f7, f8, hts, hK⟩ := id F
  show W p _ e rm s m args below meth c H locs cells slots _ (F0 m pc ls (x_v G v :: .ref (x_ad G a) :: x_st G st))
  rw [x_ad_new (Nat.lt_of_lt_of_le ha hH.1)]
  have hap := va_apart (own := M.1.cls) hts hf.1 t0 hb.1 hb.2 hK.1 hf.2.1
  obtain ⟨r, h1, cell, q1, q2, q3, q4⟩ := (hH.at ha hc) 0 _ rfl
  have hr : r = (C, T, N) := Option.some.inj (h1.symm.trans hf.2.1)
  subst hr
  obtain ⟨hS1, hfc, kC, hkC, hkind⟩ := hK.1.1 ci _ hf.2.1
  obtain ⟨cf, kf, fi, f, hi, hsl⟩ := hS1 k hf.2.2.1
  have hlay := hts _ (hf.1 _ (u_in_lay hf.2.2.1))
  unfold u_lay at hlay
  rw [if_neg (by rw [hfin]; decide)] at hlay
  have hst := (u_facts hfc hkC (u_lays hts hf.1 hf.2.2.1) hi).1
  have h6 := u_store hfc hkC hkind hlay hi (hb.1 k hf.2.2.1) (x_nar (G := G) hn) (x_fit (G := G) hfit)
  refine W.putK f1 f2 (f := f) ⟨f6, hts _ hf.2.2.2, ⟨_, _, _, hi⟩, hst⟩ (by rw [q2]; exact h6) q1 q3 (by rw [hsl]; exact k2_hasslot (q4 k hf.2.2.1)) rfl rfl hd fun H' e1 e2 e3 => ?_
  rw [hsl] at e1 ⊢
  refine kk p e s m args below meth c F H' _ ls (hH.upd e2 e3 ?_) (x_S.put hS e2 e3) hl
  refine ⟨_, hf.2.1, t_OB.to (V := updV (vp_V (fs.map (x_v G))) k (x_v G v)) ⟨_, e1, q2, q3, t_set q4 hap hf.2.2.1 _⟩ (fun j _ => ?_)⟩
  rw [vp_updV_set (by rw [List.length_map]; exact hlen)]
  show vp_V ((fs.map (x_v G)).set k (x_v G v)) j = vp_V ((fs.set k v).map (x_v G)) j
  rw [List.map_set]
/-- a final field, in the class's own constructor -/
theorem x_putF {index ci k : Nat} {C : String} {T : u_T} {N : Nat} {t0 : Nat → FieldType} {fs : List Value} {v : Value} {a : Nat} (hd : decode M.2.1 pc = .ok (.putfield index, 3)) (hf : x_fl M index ci k C T N) (hb : x_tb T N t0) (hfin : (T k).2.2.2 = true) (hin : M.1.name = "<init>") (hdecl : (T k).1 = M.1.cls) (ha : a < n) (hc : h a = .inr (ci, fs)) (hlen : k < fs.length) (hn : narrow (t0 k) v = v) (hfit : fits (t0 k) v = true)
    (kk : x_W G M rm Qf ex n (va_up h a (.inr (ci, fs.set k v))) cells slots lv st (pc + 3)) : x_W G M rm Qf ex n h cells slots lv (v :: .ref a :: st) pc := by
  intro p e s m args below meth c F H locs ls hH hS hl
  obtain ⟨f1, f2, f3, f4, f5, f6, f7, f8, hts, hK⟩ := id F
  show W p _ e rm s m args below meth c H locs cells slots _ (F0 m pc ls (x_v G v :: .ref (x_ad G a) :: x_st G st))
  rw [x_ad_new (Nat.lt_of_lt_of_le ha hH.1)]
  have hap := va_apart (own := M.1.cls) hts hf.1 t0 hb.1 hb.2 hK.1 hf.2.1
  obtain ⟨r, h1, cell, q1, q2, q3, q4⟩ := (hH.at ha hc) 0 _ rfl
  have hr : r = (C, T, N) := Option.some.inj (h1.symm.trans hf.2.1)
  subst hr
  obtain ⟨hS1, hfc, kC, hkC, hkind⟩ := hK.1.1 ci _ hf.2.1
  obtain ⟨cf, kf, fi, f, hi, hsl⟩ := hS1 k hf.2.2.1
  have hlay := hts _ (hf.1 _ (u_in_lay hf.2.2.1))
  unfold u_lay at hlay
  rw [if_pos hfin] at hlay
  have hst := (u_facts hfc hkC (u_lays hts hf.1 hf.2.2.1) hi).1
  have hcf : m.cls = cf := by
    obtain ⟨_, _, c', _, _, _, -, -, hf', -, -, -, hown2, -⟩ := Cond.laysFinal_spec hlay
    have e1 : c' = cf := by have := hi.symm.trans hf'; simp at this; exact this.1.symm
    rw [hdecl] at hown2
    rw [← e1]; exact Option.some.inj (f6.symm.trans hown2)
  have h6 := u_fits hfc hkC hkind (Or.inr hlay) hi (hb.1 k hf.2.2.1) (x_nar (G := G) hn) (x_fit (G := G) hfit)
  refine W.putFinK f1 f2 f6 (hts _ hf.2.2.2) hi hst hcf (f8.trans hin) (by rw [q2]; exact h6) q1 q3 (by rw [hsl]; exact k2_hasslot (q4 k hf.2.2.1)) rfl rfl hd fun H' e1 e2 e3 => ?_
  rw [hsl] at e1 ⊢
  refine kk p e s m args below meth c F H' _ ls (hH.upd e2 e3 ?_) (x_S.put hS e2 e3) hl
  refine ⟨_, hf.2.1, t_OB.to (V := updV (vp_V (fs.map (x_v G))) k (x_v G v)) ⟨_, e1, q2, q3, t_set q4 hap hf.2.2.1 _⟩ (fun j _ => ?_)⟩
  rw [vp_updV_set (by rw [List.length_map]; exact hlen)]
  show vp_V ((fs.map (x_v G)).set k (x_v G v)) j = vp_V ((fs.set k v).map (x_v G)) j
  rw [List.map_set]
theorem x_iald {t len a : Nat} {f : Nat → Int32} {i : Int32} (hd : decode M.2.1 pc = .ok (.iaload, 1)) (ht : x_tl[t]? = some .int) (ha : a < n) (hc : h a = .inl (t, len, .inl f)) (hin : vp_in i len)
    (kk : x_W G M rm Qf ex n h cells slots lv (.int (f i.toNatClampNeg) :: st) (pc + 1)) : x_W G M rm Qf ex n h cells slots lv (.int i :: .ref a :: st) pc := by
  intro p e s m args below meth c F H locs ls hH hS hl
  have hK := F.2.2.2.2.2.2.2.2.2
  show W p _ e rm s m args below meth c H locs cells slots _ (F0 m pc ls (.int i :: .ref (x_ad G a) :: x_st G st))
  rw [x_ad_new (Nat.lt_of_lt_of_le ha hH.1)]
  exact va_iald F.1 F.2.1 hK.1 (hH.at ha hc) 0 t rfl (x_ty_at ht) hin hd (kk p e s m args below meth c F H locs ls hH hS hl)
theorem x_bald {t len a : Nat} {f : Nat → Int32} {i : Int32} (hd : decode M.2.1 pc = .ok (.baload, 1)) (ht : x_tl[t]? = some .byte) (ha : a < n) (hc : h a = .inl (t, len, .inl f)) (hin : vp_in i len)
    (kk : x_W G M rm Qf ex n h cells slots lv (.int (f i.toNatClampNeg) :: st) (pc + 1)) : x_W G M rm Qf ex n h cells slots lv (.int i :: .ref a :: st) pc := by
  intro p e s m args below meth c F H locs ls hH hS hl
  have hK := F.2.2.2.2.2.2.2.2.2
  show W p _ e rm s m args below meth c H locs cells slots _ (F0 m pc ls (.int i :: .ref (x_ad G a) :: x_st G st))
  rw [x_ad_new (Nat.lt_of_lt_of_le ha hH.1)]
  exact va_bald F.1 F.2.1 hK.1 (hH.at ha hc) 0 t rfl (x_ty_at ht) hin hd (kk p e s m args below meth c F H locs ls hH hS hl)
theorem x_zald {t len a : Nat} {f : Nat → Int32} {i : Int32} (hd : decode M.2.1 pc = .ok (.baload, 1)) (ht : x_tl[t]? = some .boolean) (ha : a < n) (hc : h a = .inl (t, len, .inl f)) (hin : vp_in i len)
    (kk : x_W G M rm Qf ex n h cells slots lv (.int (f i.toNatClampNeg) :: st) (pc + 1)) : x_W G M rm Qf ex n h cells slots lv (.int i :: .ref a :: st) pc := by
  intro p e s m args below meth c F H locs ls hH hS hl
  have hK := F.2.2.2.2.2.2.2.2.2
  show W p _ e rm s m args below meth c H locs cells slots _ (F0 m pc ls (.int i :: .ref (x_ad G a) :: x_st G st))
  rw [x_ad_new (Nat.lt_of_lt_of_le ha hH.1)]
  exact va_zald F.1 F.2.1 hK.1 (hH.at ha hc) 0 t rfl (x_ty_at ht) hin hd (kk p e s m args below meth c F H locs ls hH hS hl)
theorem x_lald {t len a : Nat} {f : Nat → Int64} {i : Int32} (hd : decode M.2.1 pc = .ok (.laload, 1)) (ht : x_tl[t]? = some .long) (ha : a < n) (hc : h a = .inl (t, len, .inr (.inl f))) (hin : vp_in i len)
    (kk : x_W G M rm Qf ex n h cells slots lv (.long (f i.toNatClampNeg) :: st) (pc + 1)) : x_W G M rm Qf ex n h cells slots lv (.int i :: .ref a :: st) pc := by
  intro p e s m args below meth c F H locs ls hH hS hl
  have hK := F.2.2.2.2.2.2.2.2.2
  show W p _ e rm s m args below meth c H locs cells slots _ (F0 m pc ls (.int i :: .ref (x_ad G a) :: x_st G st))
  rw [x_ad_new (Nat.lt_of_lt_of_le ha hH.1)]
  exact va_lald F.1 F.2.1 hK.1 (hH.at ha hc) 0 t rfl (x_ty_at ht) hin hd (kk p e s m args below meth c F H locs ls hH hS hl)
theorem x_iast {t len a : Nat} {f : Nat → Int32} {i : Int32} {x : Int32} (hd : decode M.2.1 pc = .ok (.iastore, 1)) (ht : x_tl[t]? = some .int) (ha : a < n) (hc : h a = .inl (t, len, .inl f)) (hin : vp_in i len)
    (kk : x_W G M rm Qf ex n (va_up h a (.inl (t, len, .inl (upd f i.toNatClampNeg x)))) cells slots lv st (pc + 1)) : x_W G M rm Qf ex n h cells slots lv (.int x :: .int i :: .ref a :: st) pc := by
  intro p e s m args below meth c F H locs ls hH hS hl
  have hK := F.2.2.2.2.2.2.2.2.2
  show W p _ e rm s m args below meth c H locs cells slots _ (F0 m pc ls (.int x :: .int i :: .ref (x_ad G a) :: x_st G st))
  rw [x_ad_new (Nat.lt_of_lt_of_le ha hH.1)]
  refine W.iast F.1 F.2.1 ((hH.at ha hc) 0 _ rfl) ((hK.1.2 t _ (x_ty_at ht)).1 len (fun j => .int (f j))) (fun q => by cases q) (by show ¬ (i < 0 ∨ (arrV _ _ _).slots.size ≤ _); rw [arrV_size]; exact hin) rfl rfl hd fun H1 e1 z oq => ?_
  refine kk p e s m args below meth c F H1 _ ls (hH.upd z oq ?_) (x_S.put hS z oq) hl
  show H1[x_B G + a]? = some (vp_cell _ (len, .inl (upd f i.toNatClampNeg x)))
  rw [e1]
  show some ((arrV _ _ _).setSlot _ _) = _
  rw [vp_cell_i, arrV_store]
  congr 2
  funext q
  by_cases hq : q = i.toNatClampNeg
  · subst hq
    simp [updV, upd, vp_nar]
    try rfl
  · simp [updV, upd, hq]
theorem x_bast {t len a : Nat} {f : Nat → Int32} {i : Int32} {x : Int32} (hd : decode M.2.1 pc = .ok (.bastore, 1)) (ht : x_tl[t]? = some .byte) (ha : a < n) (hc : h a = .inl (t, len, .inl f)) (hin : vp_in i len)
    (kk : x_W G M rm Qf ex n (va_up h a (.inl (t, len, .inl (upd f i.toNatClampNeg (vp_nar .byte x))))) cells slots lv st (pc + 1)) : x_W G M rm Qf ex n h cells slots lv (.int x :: .int i :: .ref a :: st) pc := by
  intro p e s m args below meth c F H locs ls hH hS hl
  have hK := F.2.2.2.2.2.2.2.2.2
  show W p _ e rm s m args below meth c H locs cells slots _ (F0 m pc ls (.int x :: .int i :: .ref (x_ad G a) :: x_st G st))
  rw [x_ad_new (Nat.lt_of_lt_of_le ha hH.1)]
  refine W.bast F.1 F.2.1 ((hH.at ha hc) 0 _ rfl) ((hK.1.2 t _ (x_ty_at ht)).1 len (fun j => .int (f j))) (fun q => by cases q) (by show ¬ (i < 0 ∨ (arrV _ _ _).slots.size ≤ _); rw [arrV_size]; exact hin) rfl rfl hd fun H1 e1 z oq => ?_
  refine kk p e s m args below meth c F H1 _ ls (hH.upd z oq ?_) (x_S.put hS z oq) hl
  show H1[x_B G + a]? = some (vp_cell _ (len, .inl (upd f i.toNatClampNeg (vp_nar .byte x))))
  rw [e1]
  show some ((arrV _ _ _).setSlot _ _) = _
  rw [vp_cell_i, arrV_store]
  congr 2
  funext q
  by_cases hq : q = i.toNatClampNeg
  · subst hq
    simp [updV, upd, vp_nar]
    try rfl
  · simp [updV, upd, hq]
theorem x_zast {t len a : Nat} {f : Nat → Int32} {i : Int32} {x : Int32} (hd : decode M.2.1 pc = .ok (.bastore, 1)) (ht : x_tl[t]? = some .boolean) (ha : a < n) (hc : h a = .inl (t, len, .inl f)) (hin : vp_in i len)
    (kk : x_W G M rm Qf ex n (va_up h a (.inl (t, len, .inl (upd f i.toNatClampNeg (vp_nar .boolean x))))) cells slots lv st (pc + 1)) : x_W G M rm Qf ex n h cells slots lv (.int x :: .int i :: .ref a :: st) pc := by
  intro p e s m args below meth c F H locs ls hH hS hl
  have hK := F.2.2.2.2.2.2.2.2.2
  show W p _ e rm s m args below meth c H locs cells slots _ (F0 m pc ls (.int x :: .int i :: .ref (x_ad G a) :: x_st G st))
  rw [x_ad_new (Nat.lt_of_lt_of_le ha hH.1)]
  refine W.zast F.1 F.2.1 ((hH.at ha hc) 0 _ rfl) ((hK.1.2 t _ (x_ty_at ht)).1 len (fun j => .int (f j))) (fun q => by cases q) (by show ¬ (i < 0 ∨ (arrV _ _ _).slots.size ≤ _); rw [arrV_size]; exact hin) rfl rfl hd fun H1 e1 z oq => ?_
  refine kk p e s m args below meth c F H1 _ ls (hH.upd z oq ?_) (x_S.put hS z oq) hl
  show H1[x_B G + a]? = some (vp_cell _ (len, .inl (upd f i.toNatClampNeg (vp_nar .boolean x))))
  rw [e1]
  show some ((arrV _ _ _).setSlot _ _) = _
  rw [vp_cell_i, arrV_store]
  congr 2
  funext q
  by_cases hq : q = i.toNatClampNeg
  · subst hq
    simp [updV, upd, vp_nar]
    try rfl
  · simp [updV, upd, hq]
theorem x_last {t len a : Nat} {f : Nat → Int64} {i : Int32} {x : Int64} (hd : decode M.2.1 pc = .ok (.lastore, 1)) (ht : x_tl[t]? = some .long) (ha : a < n) (hc : h a = .inl (t, len, .inr (.inl f))) (hin : vp_in i len)
    (kk : x_W G M rm Qf ex n (va_up h a (.inl (t, len, .inr (.inl (vp_updL f i.toNatClampNeg x))))) cells slots lv st (pc + 1)) : x_W G M rm Qf ex n h cells slots lv (.long x :: .int i :: .ref a :: st) pc := by
  intro p e s m args below meth c F H locs ls hH hS hl
  have hK := F.2.2.2.2.2.2.2.2.2
  show W p _ e rm s m args below meth c H locs cells slots _ (F0 m pc ls (.long x :: .int i :: .ref (x_ad G a) :: x_st G st))
  rw [x_ad_new (Nat.lt_of_lt_of_le ha hH.1)]
  refine W.last F.1 F.2.1 ((hH.at ha hc) 0 _ rfl) ((hK.1.2 t _ (x_ty_at ht)).1 len (fun j => .long (f j))) (fun q => by cases q) (by show ¬ (i < 0 ∨ (arrV _ _ _).slots.size ≤ _); rw [arrV_size]; exact hin) rfl rfl hd fun H1 e1 z oq => ?_
  refine kk p e s m args below meth c F H1 _ ls (hH.upd z oq ?_) (x_S.put hS z oq) hl
  show H1[x_B G + a]? = some (vp_cell _ (len, .inr (.inl (vp_updL f i.toNatClampNeg x))))
  rw [e1]
  show some ((arrV _ _ _).setSlot _ _) = _
  rw [vp_cell_l, arrV_store]
  congr 2
  funext q
  by_cases hq : q = i.toNatClampNeg
  · subst hq
    simp [updV, vp_updL, vp_nar]
    try rfl
  · simp [updV, vp_updL, hq]
theorem x_rf {G : x_G} (r : Option Nat) : x_v G (va_rf r) = va_rf (r.map (x_ad G)) := by cases r <;> rfl
theorem x_aald {t len a b : Nat} {C : String} {f : Nat → Option Nat} {i : Int32} (hd : decode M.2.1 pc = .ok (.aaload, 1)) (ht : x_tl[t]? = some (.object C)) (ha : a < n) (hc : h a = .inl (t, len, .inr (.inr (.inr (.inr f))))) (hin : vp_in i len) (hb : f i.toNatClampNeg = some b)
    (kk : x_W G M rm Qf ex n h cells slots lv (.ref b :: st) (pc + 1)) : x_W G M rm Qf ex n h cells slots lv (.int i :: .ref a :: st) pc := by
  intro p e s m args below meth c F H locs ls hH hS hl
  have hK := F.2.2.2.2.2.2.2.2.2
  show W p _ e rm s m args below meth c H locs cells slots _ (F0 m pc ls (.int i :: .ref (x_ad G a) :: x_st G st))
  rw [x_ad_new (Nat.lt_of_lt_of_le ha hH.1)]
  refine va_aldq F.1 F.2.1 hK.1 (hH.at ha hc) 0 t rfl (x_ty_at ht) hin hd ?_
  rw [hb]
  exact kk p e s m args below meth c F H locs ls hH hS hl
theorem x_aaldA {t len a b : Nat} {ty : FieldType} {f : Nat → Option Nat} {i : Int32} (hd : decode M.2.1 pc = .ok (.aaload, 1)) (ht : x_tl[t]? = some (.array ty)) (ha : a < n) (hc : h a = .inl (t, len, .inr (.inr (.inr (.inr f))))) (hin : vp_in i len) (hb : f i.toNatClampNeg = some b)
    (kk : x_W G M rm Qf ex n h cells slots lv (.ref b :: st) (pc + 1)) : x_W G M rm Qf ex n h cells slots lv (.int i :: .ref a :: st) pc := by
  intro p e s m args below meth c F H locs ls hH hS hl
  have hK := F.2.2.2.2.2.2.2.2.2
  show W p _ e rm s m args below meth c H locs cells slots _ (F0 m pc ls (.int i :: .ref (x_ad G a) :: x_st G st))
  rw [x_ad_new (Nat.lt_of_lt_of_le ha hH.1)]
  have hlt : i.toNatClampNeg < len := Nat.not_le.mp fun q => hin (Or.inr q)
  have e0 : (f i.toNatClampNeg).map (x_ad G) = some (x_ad G b) := by rw [hb]; rfl
  exact W.aald (v := .ref (x_ad G b)) (ty := .array ty) F.1 F.2.1 ((hH.at ha hc) 0 _ rfl) ((hK.1.2 t _ (x_ty_at ht)).1 len (fun j => va_rf ((f j).map (x_ad G)))) rfl (fun q => by cases q) (by show ¬ (i < 0 ∨ (arrV _ _ _).slots.size ≤ _); rw [arrV_size]; exact hin) (by show (arrV (x_c G t) len (fun j => va_rf ((f j).map (x_ad G)))).slots[i.toNatClampNeg]? = _; rw [arrV_read _ _ hlt, e0]; rfl) rfl rfl hd (kk p e s m args below meth c F H locs ls hH hS hl)
theorem x_alen {t a : Nat} {x : vp_A} {ty : FieldType} {v : Int32} (hd : decode M.2.1 pc = .ok (.arraylength, 1)) (ht : x_tl[t]? = some ty) (ha : a < n) (hc : h a = .inl (t, x)) (hv : Int32.ofNat x.1 = v)
    (kk : x_W G M rm Qf ex n h cells slots lv (.int v :: st) (pc + 1)) : x_W G M rm Qf ex n h cells slots lv (.ref a :: st) pc := by
  intro p e s m args below meth c F H locs ls hH hS hl
  have hK := F.2.2.2.2.2.2.2.2.2
  show W p _ e rm s m args below meth c H locs cells slots _ (F0 m pc ls (.ref (x_ad G a) :: x_st G st))
  rw [x_ad_new (Nat.lt_of_lt_of_le ha hH.1)]
  exact va_alen F.1 F.2.1 hK.1 (hH.at ha hc) 0 t rfl (x_ty_at ht) (x := x_a G x) hv hd (kk p e s m args below meth c F H locs ls hH hS hl)
end XH
