/-! rows over the memory -/
def x_ix (i : Int32) (n : Nat) : Bool := decide (¬ i < 0) && decide (i.toNatClampNeg < n)
theorem x_ix_ok {i : Int32} {n : Nat} (h : x_ix i n = true) : vp_in i n := by
  simp only [x_ix, Bool.and_eq_true, decide_eq_true_eq] at h
  intro z
  rcases z with z | z
  · exact h.1 z
  · omega
theorem x_ix_lt {i : Int32} {n : Nat} (h : x_ix i n = true) : i.toNatClampNeg < n := by
  simp only [x_ix, Bool.and_eq_true, decide_eq_true_eq] at h
  exact h.2
def x_b1 (v : Int32) : Bool := decide (v = 0) || decide (v = 1)
theorem x_b1_ok {v : Int32} (h : x_b1 v = true) : narrow .boolean (.int v) = .int v ∧ fits .boolean (.int v) = true := by
  simp only [x_b1, Bool.or_eq_true, decide_eq_true_eq] at h
  rcases h with h | h <;> subst h <;> exact ⟨rfl, rfl⟩
/-- a constant of the enum -/
def x_kv (a : Nat) : Bool := decide (x_N ≤ a) && decide (a < x_N + 36)
def x_pi (r : Int32 × x_m) : x_P := fun o n h => o = .inl (some (.int r.1)) ∧ n = x_np ∧ h = x_hp r.2
def x_pj (r : Int64 × x_m) : x_P := fun o n h => o = .inl (some (.long r.1)) ∧ n = x_np ∧ h = x_hp r.2
def x_pr (r : Nat × x_m) : x_P := fun o n h => o = .inl (some (.ref r.1)) ∧ n = x_np ∧ h = x_hp r.2
def x_pv (r : x_m) : x_P := fun o n h => o = .inl none ∧ n = x_np ∧ h = x_hp r
/-- the room of a method that makes nothing, d calls deep -/
def x_rd (d : Nat) : Room := { frames := d, cells := 0, slots := 0, locals := 40 * d }
def x_kV (M2 : x_M) (C : String) (na : Nat) : Prop := x_cd M2 ∧ Cond.instanceMethod M2.1 ∈ x_tsl ∧ Cond.selects C M2.1 M2.1 ∈ x_tsl ∧ x_pl M2 ∧ (parseMethodDescriptor M2.1.desc).map (fun d => d.parameters.length) = some na
def x_kS (M2 : x_M) (na : Nat) : Prop := x_cd M2 ∧ Cond.static M2.1 ∈ x_tsl ∧ Cond.initialized M2.1.cls ∈ x_tsl ∧ x_pl M2 ∧ (parseMethodDescriptor M2.1.desc).map (fun d => d.parameters.length) = some na
section XM
variable {G : x_G} {M : x_M} {rm : Room} {Qf : List Frame → Array Value → State → State → Prop} {ex : Bool} {m : x_m} {cells slots : Nat} {lv : List (Nat × Value)} {st stk : List Value} {pc : Nat}
variable {index ci k p : Nat} {C : String} {T : u_T} {N : Nat} {tp : List (Nat ⊕ Bool)}
theorem x_gI (hd : decode M.2.1 pc = .ok (.getfield index, 3)) (hf : x_fl M index ci k C T N) (hs : x_shape p = .inl (ci, tp)) (hp : p < x_np) (ht : tp[k]? = some (.inr false))
    (kk : x_W G M rm Qf ex x_np (x_hp m) cells slots lv (.int (m.1 p k) :: st) (pc + 3)) : x_W G M rm Qf ex x_np (x_hp m) cells slots lv (.ref p :: st) pc :=
  x_getf hd hf hp (x_hp_o hs) (x_fs_get ht) kk
theorem x_gC {c : Nat} (hd : decode M.2.1 pc = .ok (.getfield index, 3)) (hf : x_fl M index ci k C T N) (hs : x_shape p = .inl (ci, tp)) (hp : p < x_np) (ht : tp[k]? = some (.inl c))
    (kk : x_W G M rm Qf ex x_np (x_hp m) cells slots lv (.ref c :: st) (pc + 3)) : x_W G M rm Qf ex x_np (x_hp m) cells slots lv (.ref p :: st) pc :=
  x_getf hd hf hp (x_hp_o hs) (x_fs_get ht) kk
theorem x_gR (hd : decode M.2.1 pc = .ok (.getfield index, 3)) (hf : x_fl M index ci k C T N) (hs : x_shape p = .inl (ci, tp)) (hp : p < x_np) (ht : tp[k]? = some (.inr true))
    (kk : x_W G M rm Qf ex x_np (x_hp m) cells slots lv (.ref (m.2.2.1 p k) :: st) (pc + 3)) : x_W G M rm Qf ex x_np (x_hp m) cells slots lv (.ref p :: st) pc :=
  x_getf hd hf hp (x_hp_o hs) (x_fs_get ht) kk
theorem x_pI {t0 : Nat → FieldType} {v : Int32} (hd : decode M.2.1 pc = .ok (.putfield index, 3)) (hf : x_fl M index ci k C T N) (hb : x_tb T N t0) (hfin : (T k).2.2.2 = false) (hs : x_shape p = .inl (ci, tp)) (hp : p < x_np) (ht : tp[k]? = some (.inr false)) (hn : narrow (t0 k) (.int v) = .int v ∧ fits (t0 k) (.int v) = true)
    (kk : x_W G M rm Qf ex x_np (x_hp (x_wS m p k v)) cells slots lv st (pc + 3)) : x_W G M rm Qf ex x_np (x_hp m) cells slots lv (.int v :: .ref p :: st) pc :=
  x_putf hd hf hb hfin hp (x_hp_o hs) (by rw [x_fs, List.length_mapIdx]; exact (List.getElem?_eq_some_iff.mp ht).1) hn.1 hn.2 (by rw [x_up_S v hs ht]; exact kk)
theorem x_pR {t0 : Nat → FieldType} {v : Nat} (hd : decode M.2.1 pc = .ok (.putfield index, 3)) (hf : x_fl M index ci k C T N) (hb : x_tb T N t0) (hfin : (T k).2.2.2 = false) (hs : x_shape p = .inl (ci, tp)) (hp : p < x_np) (ht : tp[k]? = some (.inr true)) (hn : narrow (t0 k) (.ref v) = .ref v ∧ fits (t0 k) (.ref v) = true)
    (kk : x_W G M rm Qf ex x_np (x_hp (x_wR m p k v)) cells slots lv st (pc + 3)) : x_W G M rm Qf ex x_np (x_hp m) cells slots lv (.ref v :: .ref p :: st) pc :=
  x_putf hd hf hb hfin hp (x_hp_o hs) (by rw [x_fs, List.length_mapIdx]; exact (List.getElem?_eq_some_iff.mp ht).1) hn.1 hn.2 (by rw [x_up_R v hs ht]; exact kk)
theorem x_lI {t len : Nat} {i : Int32} (hd : decode M.2.1 pc = .ok (.iaload, 1)) (ht : x_tl[t]? = some .int) (hs : x_shape p = .inr (.inl (t, len))) (hp : p < x_np) (hin : x_ix i len = true)
    (kk : x_W G M rm Qf ex x_np (x_hp m) cells slots lv (.int (m.2.1 p i.toNatClampNeg) :: st) (pc + 1)) : x_W G M rm Qf ex x_np (x_hp m) cells slots lv (.int i :: .ref p :: st) pc :=
  x_iald hd ht hp (x_hp_i hs) (x_ix_ok hin) kk
theorem x_lB {t len : Nat} {i : Int32} (hd : decode M.2.1 pc = .ok (.baload, 1)) (ht : x_tl[t]? = some .byte) (hs : x_shape p = .inr (.inl (t, len))) (hp : p < x_np) (hin : x_ix i len = true)
    (kk : x_W G M rm Qf ex x_np (x_hp m) cells slots lv (.int (m.2.1 p i.toNatClampNeg) :: st) (pc + 1)) : x_W G M rm Qf ex x_np (x_hp m) cells slots lv (.int i :: .ref p :: st) pc :=
  x_bald hd ht hp (x_hp_i hs) (x_ix_ok hin) kk
theorem x_lZ {t len : Nat} {i : Int32} (hd : decode M.2.1 pc = .ok (.baload, 1)) (ht : x_tl[t]? = some .boolean) (hs : x_shape p = .inr (.inl (t, len))) (hp : p < x_np) (hin : x_ix i len = true)
    (kk : x_W G M rm Qf ex x_np (x_hp m) cells slots lv (.int (m.2.1 p i.toNatClampNeg) :: st) (pc + 1)) : x_W G M rm Qf ex x_np (x_hp m) cells slots lv (.int i :: .ref p :: st) pc :=
  x_zald hd ht hp (x_hp_i hs) (x_ix_ok hin) kk
theorem x_sI {t len : Nat} {i x : Int32} (hd : decode M.2.1 pc = .ok (.iastore, 1)) (ht : x_tl[t]? = some .int) (hs : x_shape p = .inr (.inl (t, len))) (hp : p < x_np) (hin : x_ix i len = true)
    (kk : x_W G M rm Qf ex x_np (x_hp (x_wA m p i.toNatClampNeg x)) cells slots lv st (pc + 1)) : x_W G M rm Qf ex x_np (x_hp m) cells slots lv (.int x :: .int i :: .ref p :: st) pc :=
  x_iast hd ht hp (x_hp_i hs) (x_ix_ok hin) (by rw [x_up_A _ _ hs]; exact kk)
theorem x_sB {t len : Nat} {i x : Int32} (hd : decode M.2.1 pc = .ok (.bastore, 1)) (ht : x_tl[t]? = some .byte) (hs : x_shape p = .inr (.inl (t, len))) (hp : p < x_np) (hin : x_ix i len = true)
    (kk : x_W G M rm Qf ex x_np (x_hp (x_wA m p i.toNatClampNeg (vp_nar .byte x))) cells slots lv st (pc + 1)) : x_W G M rm Qf ex x_np (x_hp m) cells slots lv (.int x :: .int i :: .ref p :: st) pc :=
  x_bast hd ht hp (x_hp_i hs) (x_ix_ok hin) (by rw [x_up_A _ _ hs]; exact kk)
theorem x_sZ {t len : Nat} {i x : Int32} (hd : decode M.2.1 pc = .ok (.bastore, 1)) (ht : x_tl[t]? = some .boolean) (hs : x_shape p = .inr (.inl (t, len))) (hp : p < x_np) (hin : x_ix i len = true)
    (kk : x_W G M rm Qf ex x_np (x_hp (x_wA m p i.toNatClampNeg (vp_nar .boolean x))) cells slots lv st (pc + 1)) : x_W G M rm Qf ex x_np (x_hp m) cells slots lv (.int x :: .int i :: .ref p :: st) pc :=
  x_zast hd ht hp (x_hp_i hs) (x_ix_ok hin) (by rw [x_up_A _ _ hs]; exact kk)
theorem x_lL {t len : Nat} {i : Int32} (hd : decode M.2.1 pc = .ok (.laload, 1)) (ht : x_tl[t]? = some .long) (hs : x_shape p = .inr (.inr (.inl (t, len)))) (hp : p < x_np) (hin : x_ix i len = true)
    (kk : x_W G M rm Qf ex x_np (x_hp m) cells slots lv (.long (m.2.2.2 p i.toNatClampNeg) :: st) (pc + 1)) : x_W G M rm Qf ex x_np (x_hp m) cells slots lv (.int i :: .ref p :: st) pc :=
  x_lald hd ht hp (x_hp_l hs) (x_ix_ok hin) kk
theorem x_sL {t len : Nat} {i : Int32} {x : Int64} (hd : decode M.2.1 pc = .ok (.lastore, 1)) (ht : x_tl[t]? = some .long) (hs : x_shape p = .inr (.inr (.inl (t, len)))) (hp : p < x_np) (hin : x_ix i len = true)
    (kk : x_W G M rm Qf ex x_np (x_hp (x_wL m p i.toNatClampNeg x)) cells slots lv st (pc + 1)) : x_W G M rm Qf ex x_np (x_hp m) cells slots lv (.long x :: .int i :: .ref p :: st) pc :=
  x_last hd ht hp (x_hp_l hs) (x_ix_ok hin) (by rw [x_up_L _ _ hs]; exact kk)
theorem x_lR {t len b : Nat} {D : String} {f : Nat → Option Nat} {i : Int32} (hd : decode M.2.1 pc = .ok (.aaload, 1)) (ht : x_tl[t]? = some (.object D)) (hs : x_shape p = .inr (.inr (.inr (t, len, f)))) (hp : p < x_np) (hin : x_ix i len = true) (hb : f i.toNatClampNeg = some b)
    (kk : x_W G M rm Qf ex x_np (x_hp m) cells slots lv (.ref b :: st) (pc + 1)) : x_W G M rm Qf ex x_np (x_hp m) cells slots lv (.int i :: .ref p :: st) pc :=
  x_aald hd ht hp (x_hp_r hs) (x_ix_ok hin) hb kk
theorem x_lA {t len b : Nat} {ty : FieldType} {f : Nat → Option Nat} {i : Int32} (hd : decode M.2.1 pc = .ok (.aaload, 1)) (ht : x_tl[t]? = some (.array ty)) (hs : x_shape p = .inr (.inr (.inr (t, len, f)))) (hp : p < x_np) (hin : x_ix i len = true) (hb : f i.toNatClampNeg = some b)
    (kk : x_W G M rm Qf ex x_np (x_hp m) cells slots lv (.ref b :: st) (pc + 1)) : x_W G M rm Qf ex x_np (x_hp m) cells slots lv (.int i :: .ref p :: st) pc :=
  x_aaldA hd ht hp (x_hp_r hs) (x_ix_ok hin) hb kk
theorem x_ldc {v : Int32} (hd : decode M.2.1 pc = .ok (.ldc index, 2)) (hc : Cond.constant M.1.cls index v ∈ x_tsl) {n : Nat} {h : x_h} (kk : x_W G M rm Qf ex n h cells slots lv (.int v :: st) (pc + 2)) : x_W G M rm Qf ex n h cells slots lv st pc :=
  fun p e s m args below meth c F H locs ls hH hS hl => lv_ldc F.1 F.2.1 F.2.2.2.2.2.1 (F.2.2.2.2.2.2.2.2.1 _ hc) hd (kk p e s m args below meth c F H locs ls hH hS hl)
theorem x_ldc2 {v : Int64} (hd : decode M.2.1 pc = .ok (.ldc2_w index, 3)) (hc : Cond.constantLong M.1.cls index v ∈ x_tsl) {n : Nat} {h : x_h} (kk : x_W G M rm Qf ex n h cells slots lv (.long v :: st) (pc + 3)) : x_W G M rm Qf ex n h cells slots lv st pc :=
  fun p e s m args below meth c F H locs ls hH hS hl => lv_ldc2 F.1 F.2.1 F.2.2.2.2.2.1 (F.2.2.2.2.2.2.2.2.1 _ hc) hd (kk p e s m args below meth c F H locs ls hH hS hl)
theorem x_ri {d : Nat} {ty : FieldType} {v : Int32} (hd : decode M.2.1 pc = .ok (.ireturn, 1)) (hr : M.2.2.2.1 = some ty) (hn : narrow ty (.int v) = .int v) : x_W G M (x_rd d) (x_Q G (x_rd d) ex (x_pi (v, m))) ex x_np (x_hp m) 0 0 lv [.int v] pc := x_iret hd hr hn (Nat.le_refl 0) (Nat.le_refl 0) ⟨rfl, rfl, rfl⟩
theorem x_rj {d : Nat} {v : Int64} (hd : decode M.2.1 pc = .ok (.lreturn, 1)) (hr : M.2.2.2.1 = some .long) : x_W G M (x_rd d) (x_Q G (x_rd d) ex (x_pj (v, m))) ex x_np (x_hp m) 0 0 lv [.long v] pc := x_lret hd hr (Nat.le_refl 0) (Nat.le_refl 0) ⟨rfl, rfl, rfl⟩
theorem x_rr {d k : Nat} {rt : FieldType} (hd : decode M.2.1 pc = .ok (.areturn, 1)) (hr : M.2.2.2.1 = some rt) (hrt : (∃ n, rt = .object n) ∨ ∃ t, rt = .array t) : x_W G M (x_rd d) (x_Q G (x_rd d) ex (x_pr (k, m))) ex x_np (x_hp m) 0 0 lv [.ref k] pc := x_aret hd hr hrt (Nat.le_refl 0) (Nat.le_refl 0) ⟨rfl, rfl, rfl⟩
theorem x_rv {d : Nat} (hd : decode M.2.1 pc = .ok (.return_, 1)) (hr : M.2.2.2.1 = none) : x_W G M (x_rd d) (x_Q G (x_rd d) ex (x_pv m)) ex x_np (x_hp m) 0 0 lv [] pc := x_vret hd hr (Nat.le_refl 0) (Nat.le_refl 0) ⟨rfl, rfl, rfl⟩
theorem x_cVi {M2 : x_M} {d d2 b na : Nat} {As : List Value} {r : Int32 × x_m} (hd : decode M.2.1 pc = .ok (.invokevirtual index, 3)) (hlk : Cond.methodLink M.1.cls index M2.1 ∈ x_tsl) (hk : x_kV M2 C na) (hR : x_R G M2 (x_rd d2) ex (.ref b :: As) x_np (x_hp m) (x_pi r)) (hcl : vwCl[ci]? = some (C, T, N)) (hs : x_shape b = .inl (ci, tp)) (hb : b < x_np) (hna : As.length = na)
    (hrm : x_rm (x_rd d) (x_rd d2) M2) (hal : (lg_sl (.ref b :: As)).length ≤ M2.2.2.1) (hw : (st.map fun v => v.category).sum ≤ 8) (hst : stk = As.reverse ++ .ref b :: st)
    (kk : x_W G M (x_rd d) Qf ex x_np (x_hp r.2) 0 0 lv (.int r.1 :: st) (pc + 3)) : x_W G M (x_rd d) Qf ex x_np (x_hp m) 0 0 lv stk pc := by
  obtain ⟨k1, k2, k3, k4, k5⟩ := hk
  subst hna
  refine x_callV hd hR k1 hlk k2 k3 k4 k5 hb (x_hp_o hs) hcl hrm (Nat.le_refl 0) (Nat.le_refl 0) hal hw hst ?_ ?_
  · rintro v n' h' ⟨h1, rfl, rfl⟩
    cases h1
    exact kk
  · rintro Y n' h' ⟨h1, -, -⟩
    cases h1
theorem x_cSi {M2 : x_M} {d d2 na : Nat} {As : List Value} {r : Int32 × x_m} (hd : decode M.2.1 pc = .ok (.invokestatic index, 3)) (hlk : Cond.methodLink M.1.cls index M2.1 ∈ x_tsl) (hk : x_kS M2 na) (hR : x_R G M2 (x_rd d2) ex As x_np (x_hp m) (x_pi r)) (hna : As.length = na)
    (hrm : x_rm (x_rd d) (x_rd d2) M2) (hal : (lg_sl As).length ≤ M2.2.2.1) (hw : (st.map fun v => v.category).sum ≤ 8) (hst : stk = As.reverse ++ st)
    (kk : x_W G M (x_rd d) Qf ex x_np (x_hp r.2) 0 0 lv (.int r.1 :: st) (pc + 3)) : x_W G M (x_rd d) Qf ex x_np (x_hp m) 0 0 lv stk pc := by
  obtain ⟨k1, k2, k3, k4, k5⟩ := hk
  subst hna
  refine x_callS hd hR k1 hlk k2 k3 k4 k5 hrm (Nat.le_refl 0) (Nat.le_refl 0) hal hw hst ?_ ?_
  · rintro v n' h' ⟨h1, rfl, rfl⟩
    cases h1
    exact kk
  · rintro Y n' h' ⟨h1, -, -⟩
    cases h1
theorem x_cVj {M2 : x_M} {d d2 b na : Nat} {As : List Value} {r : Int64 × x_m} (hd : decode M.2.1 pc = .ok (.invokevirtual index, 3)) (hlk : Cond.methodLink M.1.cls index M2.1 ∈ x_tsl) (hk : x_kV M2 C na) (hR : x_R G M2 (x_rd d2) ex (.ref b :: As) x_np (x_hp m) (x_pj r)) (hcl : vwCl[ci]? = some (C, T, N)) (hs : x_shape b = .inl (ci, tp)) (hb : b < x_np) (hna : As.length = na)
    (hrm : x_rm (x_rd d) (x_rd d2) M2) (hal : (lg_sl (.ref b :: As)).length ≤ M2.2.2.1) (hw : (st.map fun v => v.category).sum ≤ 8) (hst : stk = As.reverse ++ .ref b :: st)
    (kk : x_W G M (x_rd d) Qf ex x_np (x_hp r.2) 0 0 lv (.long r.1 :: st) (pc + 3)) : x_W G M (x_rd d) Qf ex x_np (x_hp m) 0 0 lv stk pc := by
  obtain ⟨k1, k2, k3, k4, k5⟩ := hk
  subst hna
  refine x_callV hd hR k1 hlk k2 k3 k4 k5 hb (x_hp_o hs) hcl hrm (Nat.le_refl 0) (Nat.le_refl 0) hal hw hst ?_ ?_
  · rintro v n' h' ⟨h1, rfl, rfl⟩
    cases h1
    exact kk
  · rintro Y n' h' ⟨h1, -, -⟩
    cases h1
theorem x_cSj {M2 : x_M} {d d2 na : Nat} {As : List Value} {r : Int64 × x_m} (hd : decode M.2.1 pc = .ok (.invokestatic index, 3)) (hlk : Cond.methodLink M.1.cls index M2.1 ∈ x_tsl) (hk : x_kS M2 na) (hR : x_R G M2 (x_rd d2) ex As x_np (x_hp m) (x_pj r)) (hna : As.length = na)
    (hrm : x_rm (x_rd d) (x_rd d2) M2) (hal : (lg_sl As).length ≤ M2.2.2.1) (hw : (st.map fun v => v.category).sum ≤ 8) (hst : stk = As.reverse ++ st)
    (kk : x_W G M (x_rd d) Qf ex x_np (x_hp r.2) 0 0 lv (.long r.1 :: st) (pc + 3)) : x_W G M (x_rd d) Qf ex x_np (x_hp m) 0 0 lv stk pc := by
  obtain ⟨k1, k2, k3, k4, k5⟩ := hk
  subst hna
  refine x_callS hd hR k1 hlk k2 k3 k4 k5 hrm (Nat.le_refl 0) (Nat.le_refl 0) hal hw hst ?_ ?_
  · rintro v n' h' ⟨h1, rfl, rfl⟩
    cases h1
    exact kk
  · rintro Y n' h' ⟨h1, -, -⟩
    cases h1
theorem x_cVr {M2 : x_M} {d d2 b na : Nat} {As : List Value} {r : Nat × x_m} (hd : decode M.2.1 pc = .ok (.invokevirtual index, 3)) (hlk : Cond.methodLink M.1.cls index M2.1 ∈ x_tsl) (hk : x_kV M2 C na) (hR : x_R G M2 (x_rd d2) ex (.ref b :: As) x_np (x_hp m) (x_pr r)) (hcl : vwCl[ci]? = some (C, T, N)) (hs : x_shape b = .inl (ci, tp)) (hb : b < x_np) (hna : As.length = na)
    (hrm : x_rm (x_rd d) (x_rd d2) M2) (hal : (lg_sl (.ref b :: As)).length ≤ M2.2.2.1) (hw : (st.map fun v => v.category).sum ≤ 8) (hst : stk = As.reverse ++ .ref b :: st)
    (kk : x_W G M (x_rd d) Qf ex x_np (x_hp r.2) 0 0 lv (.ref r.1 :: st) (pc + 3)) : x_W G M (x_rd d) Qf ex x_np (x_hp m) 0 0 lv stk pc := by
  obtain ⟨k1, k2, k3, k4, k5⟩ := hk
  subst hna
  refine x_callV hd hR k1 hlk k2 k3 k4 k5 hb (x_hp_o hs) hcl hrm (Nat.le_refl 0) (Nat.le_refl 0) hal hw hst ?_ ?_
  · rintro v n' h' ⟨h1, rfl, rfl⟩
    cases h1
    exact kk
  · rintro Y n' h' ⟨h1, -, -⟩
    cases h1
theorem x_cSr {M2 : x_M} {d d2 na : Nat} {As : List Value} {r : Nat × x_m} (hd : decode M.2.1 pc = .ok (.invokestatic index, 3)) (hlk : Cond.methodLink M.1.cls index M2.1 ∈ x_tsl) (hk : x_kS M2 na) (hR : x_R G M2 (x_rd d2) ex As x_np (x_hp m) (x_pr r)) (hna : As.length = na)
    (hrm : x_rm (x_rd d) (x_rd d2) M2) (hal : (lg_sl As).length ≤ M2.2.2.1) (hw : (st.map fun v => v.category).sum ≤ 8) (hst : stk = As.reverse ++ st)
    (kk : x_W G M (x_rd d) Qf ex x_np (x_hp r.2) 0 0 lv (.ref r.1 :: st) (pc + 3)) : x_W G M (x_rd d) Qf ex x_np (x_hp m) 0 0 lv stk pc := by
  obtain ⟨k1, k2, k3, k4, k5⟩ := hk
  subst hna
  refine x_callS hd hR k1 hlk k2 k3 k4 k5 hrm (Nat.le_refl 0) (Nat.le_refl 0) hal hw hst ?_ ?_
  · rintro v n' h' ⟨h1, rfl, rfl⟩
    cases h1
    exact kk
  · rintro Y n' h' ⟨h1, -, -⟩
    cases h1
theorem x_cVv {M2 : x_M} {d d2 b na : Nat} {As : List Value} {r : x_m} (hd : decode M.2.1 pc = .ok (.invokevirtual index, 3)) (hlk : Cond.methodLink M.1.cls index M2.1 ∈ x_tsl) (hk : x_kV M2 C na) (hR : x_R G M2 (x_rd d2) ex (.ref b :: As) x_np (x_hp m) (x_pv r)) (hcl : vwCl[ci]? = some (C, T, N)) (hs : x_shape b = .inl (ci, tp)) (hb : b < x_np) (hna : As.length = na)
    (hrm : x_rm (x_rd d) (x_rd d2) M2) (hal : (lg_sl (.ref b :: As)).length ≤ M2.2.2.1) (hw : (st.map fun v => v.category).sum ≤ 8) (hst : stk = As.reverse ++ .ref b :: st)
    (kk : x_W G M (x_rd d) Qf ex x_np (x_hp r) 0 0 lv (st) (pc + 3)) : x_W G M (x_rd d) Qf ex x_np (x_hp m) 0 0 lv stk pc := by
  obtain ⟨k1, k2, k3, k4, k5⟩ := hk
  subst hna
  refine x_callV hd hR k1 hlk k2 k3 k4 k5 hb (x_hp_o hs) hcl hrm (Nat.le_refl 0) (Nat.le_refl 0) hal hw hst ?_ ?_
  · rintro v n' h' ⟨h1, rfl, rfl⟩
    cases h1
    exact kk
  · rintro Y n' h' ⟨h1, -, -⟩
    cases h1
theorem x_cSv {M2 : x_M} {d d2 na : Nat} {As : List Value} {r : x_m} (hd : decode M.2.1 pc = .ok (.invokestatic index, 3)) (hlk : Cond.methodLink M.1.cls index M2.1 ∈ x_tsl) (hk : x_kS M2 na) (hR : x_R G M2 (x_rd d2) ex As x_np (x_hp m) (x_pv r)) (hna : As.length = na)
    (hrm : x_rm (x_rd d) (x_rd d2) M2) (hal : (lg_sl As).length ≤ M2.2.2.1) (hw : (st.map fun v => v.category).sum ≤ 8) (hst : stk = As.reverse ++ st)
    (kk : x_W G M (x_rd d) Qf ex x_np (x_hp r) 0 0 lv (st) (pc + 3)) : x_W G M (x_rd d) Qf ex x_np (x_hp m) 0 0 lv stk pc := by
  obtain ⟨k1, k2, k3, k4, k5⟩ := hk
  subst hna
  refine x_callS hd hR k1 hlk k2 k3 k4 k5 hrm (Nat.le_refl 0) (Nat.le_refl 0) hal hw hst ?_ ?_
  · rintro v n' h' ⟨h1, rfl, rfl⟩
    cases h1
    exact kk
  · rintro Y n' h' ⟨h1, -, -⟩
    cases h1
end XM
