/-! methods that may throw: rows, and demand -/
/-- the room of a method that makes at most c exceptions, d calls deep -/
def x_rx (d c : Nat) : Room := { frames := d, cells := c, slots := 6 * c, locals := 40 * d }
def x_ex (b : Bool) : String := if b then "java/lang/IllegalArgumentException" else "java/lang/IllegalStateException"
def x_pt (r : (Int32 ⊕ Bool) × x_m) : x_P := fun o n h => o = (match r.1 with | .inl v => .inl (some (.int v)) | .inr b => .inr (x_ex b)) ∧ n = x_np ∧ h = x_hp r.2
section XF
variable {G : x_G} {M : x_M} {rm : Room} {Qf : List Frame → Array Value → State → State → Prop} {ex : Bool} {m : x_m} {cells slots : Nat} {lv : List (Nat × Value)} {st stk : List Value} {pc : Nat}
variable {index ci k p : Nat} {C : String} {T : u_T} {N : Nat} {tp : List (Nat ⊕ Bool)}
theorem x_ti {ty : FieldType} {v : Int32} (hd : decode M.2.1 pc = .ok (.ireturn, 1)) (hr : M.2.2.2.1 = some ty) (hn : narrow ty (.int v) = .int v) (hc : cells ≤ rm.cells) (hs : slots ≤ rm.slots) : x_W G M rm (x_Q G rm ex (x_pt (.inl v, m))) ex x_np (x_hp m) cells slots lv [.int v] pc := x_iret hd hr hn hc hs ⟨rfl, rfl, rfl⟩
theorem x_wi {ty : FieldType} {v : Int32} (hd : decode M.2.1 pc = .ok (.ireturn, 1)) (hr : M.2.2.2.1 = some ty) (hn : narrow ty (.int v) = .int v) (hc : cells ≤ rm.cells) (hs : slots ≤ rm.slots) : x_W G M rm (x_Q G rm ex (x_pi (v, m))) ex x_np (x_hp m) cells slots lv [.int v] pc := x_iret hd hr hn hc hs ⟨rfl, rfl, rfl⟩
theorem x_dVi {M2 : x_M} {d2 b na : Nat} {As : List Value} {r : Int32 × x_m} (hd : decode M.2.1 pc = .ok (.invokevirtual index, 3)) (hlk : Cond.methodLink M.1.cls index M2.1 ∈ x_tsl) (hk : x_kV M2 C na) (hR : x_R G M2 (x_rd d2) ex (.ref b :: As) x_np (x_hp m) (x_pi r)) (hcl : vwCl[ci]? = some (C, T, N)) (hs : x_shape b = .inl (ci, tp)) (hb : b < x_np) (hna : As.length = na)
    (hrm : x_rm rm (x_rd d2) M2) (hal : (lg_sl (.ref b :: As)).length ≤ M2.2.2.1) (hw : (st.map fun v => v.category).sum ≤ 8) (hc1 : cells ≤ rm.cells) (hs1 : slots ≤ rm.slots) (hst : stk = As.reverse ++ .ref b :: st)
    (kk : x_W G M rm Qf ex x_np (x_hp r.2) cells slots lv (.int r.1 :: st) (pc + 3)) : x_W G M rm Qf ex x_np (x_hp m) cells slots lv stk pc := by
  obtain ⟨k1, k2, k3, k4, k5⟩ := hk
  subst hna
  refine x_callV hd hR k1 hlk k2 k3 k4 k5 hb (x_hp_o hs) hcl hrm hc1 hs1 hal hw hst ?_ ?_
  · rintro v n' h' ⟨h1, rfl, rfl⟩
    cases h1
    exact kk
  · rintro Y n' h' ⟨h1, -, -⟩
    cases h1
theorem x_dSi {M2 : x_M} {d2 na : Nat} {As : List Value} {r : Int32 × x_m} (hd : decode M.2.1 pc = .ok (.invokestatic index, 3)) (hlk : Cond.methodLink M.1.cls index M2.1 ∈ x_tsl) (hk : x_kS M2 na) (hR : x_R G M2 (x_rd d2) ex As x_np (x_hp m) (x_pi r)) (hna : As.length = na)
    (hrm : x_rm rm (x_rd d2) M2) (hal : (lg_sl As).length ≤ M2.2.2.1) (hw : (st.map fun v => v.category).sum ≤ 8) (hc1 : cells ≤ rm.cells) (hs1 : slots ≤ rm.slots) (hst : stk = As.reverse ++ st)
    (kk : x_W G M rm Qf ex x_np (x_hp r.2) cells slots lv (.int r.1 :: st) (pc + 3)) : x_W G M rm Qf ex x_np (x_hp m) cells slots lv stk pc := by
  obtain ⟨k1, k2, k3, k4, k5⟩ := hk
  subst hna
  refine x_callS hd hR k1 hlk k2 k3 k4 k5 hrm hc1 hs1 hal hw hst ?_ ?_
  · rintro v n' h' ⟨h1, rfl, rfl⟩
    cases h1
    exact kk
  · rintro Y n' h' ⟨h1, -, -⟩
    cases h1
theorem x_dVj {M2 : x_M} {d2 b na : Nat} {As : List Value} {r : Int64 × x_m} (hd : decode M.2.1 pc = .ok (.invokevirtual index, 3)) (hlk : Cond.methodLink M.1.cls index M2.1 ∈ x_tsl) (hk : x_kV M2 C na) (hR : x_R G M2 (x_rd d2) ex (.ref b :: As) x_np (x_hp m) (x_pj r)) (hcl : vwCl[ci]? = some (C, T, N)) (hs : x_shape b = .inl (ci, tp)) (hb : b < x_np) (hna : As.length = na)
    (hrm : x_rm rm (x_rd d2) M2) (hal : (lg_sl (.ref b :: As)).length ≤ M2.2.2.1) (hw : (st.map fun v => v.category).sum ≤ 8) (hc1 : cells ≤ rm.cells) (hs1 : slots ≤ rm.slots) (hst : stk = As.reverse ++ .ref b :: st)
    (kk : x_W G M rm Qf ex x_np (x_hp r.2) cells slots lv (.long r.1 :: st) (pc + 3)) : x_W G M rm Qf ex x_np (x_hp m) cells slots lv stk pc := by
  obtain ⟨k1, k2, k3, k4, k5⟩ := hk
  subst hna
  refine x_callV hd hR k1 hlk k2 k3 k4 k5 hb (x_hp_o hs) hcl hrm hc1 hs1 hal hw hst ?_ ?_
  · rintro v n' h' ⟨h1, rfl, rfl⟩
    cases h1
    exact kk
  · rintro Y n' h' ⟨h1, -, -⟩
    cases h1
theorem x_dSj {M2 : x_M} {d2 na : Nat} {As : List Value} {r : Int64 × x_m} (hd : decode M.2.1 pc = .ok (.invokestatic index, 3)) (hlk : Cond.methodLink M.1.cls index M2.1 ∈ x_tsl) (hk : x_kS M2 na) (hR : x_R G M2 (x_rd d2) ex As x_np (x_hp m) (x_pj r)) (hna : As.length = na)
    (hrm : x_rm rm (x_rd d2) M2) (hal : (lg_sl As).length ≤ M2.2.2.1) (hw : (st.map fun v => v.category).sum ≤ 8) (hc1 : cells ≤ rm.cells) (hs1 : slots ≤ rm.slots) (hst : stk = As.reverse ++ st)
    (kk : x_W G M rm Qf ex x_np (x_hp r.2) cells slots lv (.long r.1 :: st) (pc + 3)) : x_W G M rm Qf ex x_np (x_hp m) cells slots lv stk pc := by
  obtain ⟨k1, k2, k3, k4, k5⟩ := hk
  subst hna
  refine x_callS hd hR k1 hlk k2 k3 k4 k5 hrm hc1 hs1 hal hw hst ?_ ?_
  · rintro v n' h' ⟨h1, rfl, rfl⟩
    cases h1
    exact kk
  · rintro Y n' h' ⟨h1, -, -⟩
    cases h1
theorem x_dVr {M2 : x_M} {d2 b na : Nat} {As : List Value} {r : Nat × x_m} (hd : decode M.2.1 pc = .ok (.invokevirtual index, 3)) (hlk : Cond.methodLink M.1.cls index M2.1 ∈ x_tsl) (hk : x_kV M2 C na) (hR : x_R G M2 (x_rd d2) ex (.ref b :: As) x_np (x_hp m) (x_pr r)) (hcl : vwCl[ci]? = some (C, T, N)) (hs : x_shape b = .inl (ci, tp)) (hb : b < x_np) (hna : As.length = na)
    (hrm : x_rm rm (x_rd d2) M2) (hal : (lg_sl (.ref b :: As)).length ≤ M2.2.2.1) (hw : (st.map fun v => v.category).sum ≤ 8) (hc1 : cells ≤ rm.cells) (hs1 : slots ≤ rm.slots) (hst : stk = As.reverse ++ .ref b :: st)
    (kk : x_W G M rm Qf ex x_np (x_hp r.2) cells slots lv (.ref r.1 :: st) (pc + 3)) : x_W G M rm Qf ex x_np (x_hp m) cells slots lv stk pc := by
  obtain ⟨k1, k2, k3, k4, k5⟩ := hk
  subst hna
  refine x_callV hd hR k1 hlk k2 k3 k4 k5 hb (x_hp_o hs) hcl hrm hc1 hs1 hal hw hst ?_ ?_
  · rintro v n' h' ⟨h1, rfl, rfl⟩
    cases h1
    exact kk
  · rintro Y n' h' ⟨h1, -, -⟩
    cases h1
theorem x_dSr {M2 : x_M} {d2 na : Nat} {As : List Value} {r : Nat × x_m} (hd : decode M.2.1 pc = .ok (.invokestatic index, 3)) (hlk : Cond.methodLink M.1.cls index M2.1 ∈ x_tsl) (hk : x_kS M2 na) (hR : x_R G M2 (x_rd d2) ex As x_np (x_hp m) (x_pr r)) (hna : As.length = na)
    (hrm : x_rm rm (x_rd d2) M2) (hal : (lg_sl As).length ≤ M2.2.2.1) (hw : (st.map fun v => v.category).sum ≤ 8) (hc1 : cells ≤ rm.cells) (hs1 : slots ≤ rm.slots) (hst : stk = As.reverse ++ st)
    (kk : x_W G M rm Qf ex x_np (x_hp r.2) cells slots lv (.ref r.1 :: st) (pc + 3)) : x_W G M rm Qf ex x_np (x_hp m) cells slots lv stk pc := by
  obtain ⟨k1, k2, k3, k4, k5⟩ := hk
  subst hna
  refine x_callS hd hR k1 hlk k2 k3 k4 k5 hrm hc1 hs1 hal hw hst ?_ ?_
  · rintro v n' h' ⟨h1, rfl, rfl⟩
    cases h1
    exact kk
  · rintro Y n' h' ⟨h1, -, -⟩
    cases h1
theorem x_dVv {M2 : x_M} {d2 b na : Nat} {As : List Value} {r : x_m} (hd : decode M.2.1 pc = .ok (.invokevirtual index, 3)) (hlk : Cond.methodLink M.1.cls index M2.1 ∈ x_tsl) (hk : x_kV M2 C na) (hR : x_R G M2 (x_rd d2) ex (.ref b :: As) x_np (x_hp m) (x_pv r)) (hcl : vwCl[ci]? = some (C, T, N)) (hs : x_shape b = .inl (ci, tp)) (hb : b < x_np) (hna : As.length = na)
    (hrm : x_rm rm (x_rd d2) M2) (hal : (lg_sl (.ref b :: As)).length ≤ M2.2.2.1) (hw : (st.map fun v => v.category).sum ≤ 8) (hc1 : cells ≤ rm.cells) (hs1 : slots ≤ rm.slots) (hst : stk = As.reverse ++ .ref b :: st)
    (kk : x_W G M rm Qf ex x_np (x_hp r) cells slots lv (st) (pc + 3)) : x_W G M rm Qf ex x_np (x_hp m) cells slots lv stk pc := by
  obtain ⟨k1, k2, k3, k4, k5⟩ := hk
  subst hna
  refine x_callV hd hR k1 hlk k2 k3 k4 k5 hb (x_hp_o hs) hcl hrm hc1 hs1 hal hw hst ?_ ?_
  · rintro v n' h' ⟨h1, rfl, rfl⟩
    cases h1
    exact kk
  · rintro Y n' h' ⟨h1, -, -⟩
    cases h1
theorem x_dSv {M2 : x_M} {d2 na : Nat} {As : List Value} {r : x_m} (hd : decode M.2.1 pc = .ok (.invokestatic index, 3)) (hlk : Cond.methodLink M.1.cls index M2.1 ∈ x_tsl) (hk : x_kS M2 na) (hR : x_R G M2 (x_rd d2) ex As x_np (x_hp m) (x_pv r)) (hna : As.length = na)
    (hrm : x_rm rm (x_rd d2) M2) (hal : (lg_sl As).length ≤ M2.2.2.1) (hw : (st.map fun v => v.category).sum ≤ 8) (hc1 : cells ≤ rm.cells) (hs1 : slots ≤ rm.slots) (hst : stk = As.reverse ++ st)
    (kk : x_W G M rm Qf ex x_np (x_hp r) cells slots lv (st) (pc + 3)) : x_W G M rm Qf ex x_np (x_hp m) cells slots lv stk pc := by
  obtain ⟨k1, k2, k3, k4, k5⟩ := hk
  subst hna
  refine x_callS hd hR k1 hlk k2 k3 k4 k5 hrm hc1 hs1 hal hw hst ?_ ?_
  · rintro v n' h' ⟨h1, rfl, rfl⟩
    cases h1
    exact kk
  · rintro Y n' h' ⟨h1, -, -⟩
    cases h1
end XF
def M_QR_demand : x_M := (⟨"QuestionReader", "demand", "(Z)V"⟩, prog_1_method_19_code, 1, none, [])
theorem d_QR_demand_0 : decode M_QR_demand.2.1 0 = .ok (.iload_n 0, 1) := by decide +kernel
theorem d_QR_demand_1 : decode M_QR_demand.2.1 1 = .ok (.ifCond .ne 13, 3) := by decide +kernel
theorem d_QR_demand_4 : decode M_QR_demand.2.1 4 = .ok (.new 135, 3) := by decide +kernel
theorem d_QR_demand_7 : decode M_QR_demand.2.1 7 = .ok (.dup, 1) := by decide +kernel
theorem d_QR_demand_8 : decode M_QR_demand.2.1 8 = .ok (.ldc 223, 2) := by decide +kernel
theorem d_QR_demand_10 : decode M_QR_demand.2.1 10 = .ok (.invokespecial 139, 3) := by decide +kernel
theorem d_QR_demand_13 : decode M_QR_demand.2.1 13 = .ok (.athrow, 1) := by decide +kernel
theorem d_QR_demand_14 : decode M_QR_demand.2.1 14 = .ok (.return_, 1) := by decide +kernel
theorem k_QR_demand : x_kS M_QR_demand 1 := ⟨⟨by decide, Or.inl ⟨w_883, rfl⟩⟩, w_882, w_1, ⟨by decide, by decide⟩, by decide +kernel⟩
def M_QR_demandOpen : x_M := (⟨"QuestionReader", "demandOpen", "()V"⟩, prog_1_method_18_code, 1, none, [])
theorem d_QR_demandOpen_0 : decode M_QR_demandOpen.2.1 0 = .ok (.aload_n 0, 1) := by decide +kernel
theorem d_QR_demandOpen_1 : decode M_QR_demandOpen.2.1 1 = .ok (.getfield 28, 3) := by decide +kernel
theorem d_QR_demandOpen_4 : decode M_QR_demandOpen.2.1 4 = .ok (.getfield 217, 3) := by decide +kernel
theorem d_QR_demandOpen_7 : decode M_QR_demandOpen.2.1 7 = .ok (.ifCond .ne 13, 3) := by decide +kernel
theorem d_QR_demandOpen_10 : decode M_QR_demandOpen.2.1 10 = .ok (.new 53, 3) := by decide +kernel
theorem d_QR_demandOpen_13 : decode M_QR_demandOpen.2.1 13 = .ok (.dup, 1) := by decide +kernel
theorem d_QR_demandOpen_14 : decode M_QR_demandOpen.2.1 14 = .ok (.ldc 221, 2) := by decide +kernel
theorem d_QR_demandOpen_16 : decode M_QR_demandOpen.2.1 16 = .ok (.invokespecial 57, 3) := by decide +kernel
theorem d_QR_demandOpen_19 : decode M_QR_demandOpen.2.1 19 = .ok (.athrow, 1) := by decide +kernel
theorem d_QR_demandOpen_20 : decode M_QR_demandOpen.2.1 20 = .ok (.return_, 1) := by decide +kernel
theorem k_QR_demandOpen : x_kV M_QR_demandOpen "QuestionReader" 0 := ⟨⟨by decide, Or.inl ⟨w_956, rfl⟩⟩, w_955, ws_34, ⟨by decide, by decide⟩, by decide +kernel⟩
theorem c_QR_demand0 {G : x_G} {m : x_m} {Po : x_P} (hp : Po (.inr "java/lang/IllegalArgumentException") x_np (x_hp m)) : x_R G M_QR_demand (x_rx 6 1) false [.int 0] x_np (x_hp m) Po := by
  show x_W G M_QR_demand (x_rx 6 1) (x_Q G (x_rx 6 1) false Po) false x_np (x_hp m) 0 0 [(0, .int 0)] [] 0
  refine x_iload_n d_QR_demand_0 rfl rfl ?_
  refine x_if_ne (tgt := 14) d_QR_demand_1 (by decide) (fun c_ => absurd rfl c_) (fun c_ => ?_)
  exact x_throw (i := 41) d_QR_demand_4 d_QR_demand_7 d_QR_demand_8 d_QR_demand_10 d_QR_demand_13 rfl rfl (by decide +kernel) w_884 w_20 w_885 x_atA (fun z => z.2.2.2.2.2.1.2.1) (Nat.le_of_ble_eq_true rfl) (Nat.le_of_ble_eq_true rfl) (Nat.le_of_ble_eq_true rfl) (Nat.le_of_ble_eq_true rfl) hp
theorem c_QR_demand1 {G : x_G} {ex : Bool} {m : x_m} {v : Int32} (hv : ¬ v = 0) : x_R G M_QR_demand (x_rx 6 1) ex [.int v] x_np (x_hp m) (x_pv m) := by
  show x_W G M_QR_demand (x_rx 6 1) (x_Q G (x_rx 6 1) ex (x_pv m)) ex x_np (x_hp m) 0 0 [(0, .int v)] [] 0
  refine x_iload_n d_QR_demand_0 rfl rfl ?_
  refine x_if_ne (tgt := 14) d_QR_demand_1 (by decide) (fun c_ => ?_) (fun c_ => absurd c_ hv)
  exact x_vret d_QR_demand_14 rfl (Nat.le_of_ble_eq_true rfl) (Nat.le_of_ble_eq_true rfl) ⟨rfl, rfl, rfl⟩
theorem c_QR_demandOpen0 {G : x_G} {m : x_m} {Po : x_P} (hv : m.1 4 4 = 0) (hp : Po (.inr "java/lang/IllegalStateException") x_np (x_hp m)) : x_R G M_QR_demandOpen (x_rx 6 1) false [.ref 0] x_np (x_hp m) Po := by
  show x_W G M_QR_demandOpen (x_rx 6 1) (x_Q G (x_rx 6 1) false Po) false x_np (x_hp m) 0 0 [(0, .ref 0)] [] 0
  refine x_aload_n d_QR_demandOpen_0 rfl rfl ?_
  refine x_gC d_QR_demandOpen_1 (f_QR_28 rfl) sh_QR hp_QR rfl ?_
  refine x_gI d_QR_demandOpen_4 (f_QR_217 rfl) sh_CT hp_CT rfl ?_
  refine x_if_ne (tgt := 20) d_QR_demandOpen_7 (by decide) (fun c_ => absurd hv c_) (fun c_ => ?_)
  exact x_throw (i := 43) d_QR_demandOpen_10 d_QR_demandOpen_13 d_QR_demandOpen_14 d_QR_demandOpen_16 d_QR_demandOpen_19 rfl rfl (by decide +kernel) w_803 w_19 w_804 x_atS (fun z => z.2.2.2.2.2.1.2.2.2.1) (Nat.le_of_ble_eq_true rfl) (Nat.le_of_ble_eq_true rfl) (Nat.le_of_ble_eq_true rfl) (Nat.le_of_ble_eq_true rfl) hp
theorem c_QR_demandOpen1 {G : x_G} {ex : Bool} {m : x_m} (hv : ¬ m.1 4 4 = 0) : x_R G M_QR_demandOpen (x_rx 6 1) ex [.ref 0] x_np (x_hp m) (x_pv m) := by
  show x_W G M_QR_demandOpen (x_rx 6 1) (x_Q G (x_rx 6 1) ex (x_pv m)) ex x_np (x_hp m) 0 0 [(0, .ref 0)] [] 0
  refine x_aload_n d_QR_demandOpen_0 rfl rfl ?_
  refine x_gC d_QR_demandOpen_1 (f_QR_28 rfl) sh_QR hp_QR rfl ?_
  refine x_gI d_QR_demandOpen_4 (f_QR_217 rfl) sh_CT hp_CT rfl ?_
  refine x_if_ne (tgt := 20) d_QR_demandOpen_7 (by decide) (fun c_ => ?_) (fun c_ => absurd c_ hv)
  exact x_vret d_QR_demandOpen_20 rfl (Nat.le_of_ble_eq_true rfl) (Nat.le_of_ble_eq_true rfl) ⟨rfl, rfl, rfl⟩
section XD
variable {G : x_G} {M : x_M} {rm : Room} {Po : x_P} {m : x_m} {cells slots : Nat} {lv : List (Nat × Value)} {st : List Value} {pc index : Nat}
theorem x_dem {v : Int32} (hd : decode M.2.1 pc = .ok (.invokestatic index, 3)) (hlk : Cond.methodLink M.1.cls index M_QR_demand.1 ∈ x_tsl) (hE : M.2.2.2.2 = []) (hrm : x_rm rm (x_rx 6 1) M_QR_demand) (hc : cells + 1 ≤ rm.cells) (hs : slots + 6 ≤ rm.slots) (hw : (st.map fun v => v.category).sum ≤ 8) (k0 : v = 0 → Po (.inr "java/lang/IllegalArgumentException") x_np (x_hp m))
    (k1 : ¬ v = 0 → x_W G M rm (x_Q G rm false Po) false x_np (x_hp m) (cells + 1) (slots + 6) lv st (pc + 3)) : x_W G M rm (x_Q G rm false Po) false x_np (x_hp m) cells slots lv (.int v :: st) pc := by
  obtain ⟨e1, e2, e3, e4, e5⟩ := k_QR_demand
  by_cases hv : v = 0
  · subst hv
    refine x_callS hd (c_QR_demand0 (Po := fun o n h => o = .inr "java/lang/IllegalArgumentException" ∧ n = x_np ∧ h = x_hp m) ⟨rfl, rfl, rfl⟩) e1 hlk e2 e3 e4 (As := [.int 0]) e5 hrm hc hs (Nat.le_of_ble_eq_true rfl) hw rfl ?_ ?_
    · rintro v n' h' ⟨h1, -, -⟩
      cases h1
    · rintro Y n' h' ⟨h1, rfl, rfl⟩
      cases h1
      exact x_out (fun q z => by rw [hE] at z; exact nomatch z) hc hs (k0 rfl)
  · refine x_callS hd (c_QR_demand1 hv) e1 hlk e2 e3 e4 (As := [.int v]) e5 hrm hc hs (Nat.le_of_ble_eq_true rfl) hw rfl ?_ ?_
    · rintro v n' h' ⟨h1, rfl, rfl⟩
      cases h1
      exact k1 hv
    · rintro Y n' h' ⟨h1, -, -⟩
      cases h1
theorem x_demO (hd : decode M.2.1 pc = .ok (.invokevirtual index, 3)) (hlk : Cond.methodLink M.1.cls index M_QR_demandOpen.1 ∈ x_tsl) (hE : M.2.2.2.2 = []) (hrm : x_rm rm (x_rx 6 1) M_QR_demandOpen) (hc : cells + 1 ≤ rm.cells) (hs : slots + 6 ≤ rm.slots) (hw : (st.map fun v => v.category).sum ≤ 8) (k0 : m.1 4 4 = 0 → Po (.inr "java/lang/IllegalStateException") x_np (x_hp m))
    (k1 : ¬ m.1 4 4 = 0 → x_W G M rm (x_Q G rm false Po) false x_np (x_hp m) (cells + 1) (slots + 6) lv st (pc + 3)) : x_W G M rm (x_Q G rm false Po) false x_np (x_hp m) cells slots lv (.ref 0 :: st) pc := by
  obtain ⟨e1, e2, e3, e4, e5⟩ := k_QR_demandOpen
  by_cases hv : m.1 4 4 = 0
  · refine x_callV hd (c_QR_demandOpen0 hv (Po := fun o n h => o = .inr "java/lang/IllegalStateException" ∧ n = x_np ∧ h = x_hp m) ⟨rfl, rfl, rfl⟩) e1 hlk e2 e3 e4 (As := []) e5 hp_QR (x_hp_o sh_QR) rfl hrm hc hs (Nat.le_of_ble_eq_true rfl) hw rfl ?_ ?_
    · rintro v n' h' ⟨h1, -, -⟩
      cases h1
    · rintro Y n' h' ⟨h1, rfl, rfl⟩
      cases h1
      exact x_out (fun q z => by rw [hE] at z; exact nomatch z) hc hs (k0 hv)
  · refine x_callV hd (c_QR_demandOpen1 hv) e1 hlk e2 e3 e4 (As := []) e5 hp_QR (x_hp_o sh_QR) rfl hrm hc hs (Nat.le_of_ble_eq_true rfl) hw rfl ?_ ?_
    · rintro v n' h' ⟨h1, rfl, rfl⟩
      cases h1
      exact k1 hv
    · rintro Y n' h' ⟨h1, -, -⟩
      cases h1
end XD
