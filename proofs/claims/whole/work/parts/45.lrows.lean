/-! the law: rows on the script, calls that may make exceptions -/
section XL
variable {G : x_G} {M : x_M} {rm : Room} {Qf : List Frame → Array Value → State → State → Prop} {ex : Bool} {n : Nat} {h : x_h} {cells slots : Nat} {lv : List (Nat × Value)} {st stk : List Value} {pc L : Nat} {xs : Nat → Int32}
theorem x_SX {s : State} (hZ : x_Z G s) (hX : va_X G.2.2.2.1.2 L xs (x_s0 G) (x_s0 G).heap) : va_X G.2.2.2.1.2 L xs s s.heap := va_X.moved hZ.2.1.alike (hX.kept (hZ.2.2 _ hZ.1.2.2.2.2))
theorem x_alenS (hX : va_X G.2.2.2.1.2 L xs (x_s0 G) (x_s0 G).heap) (hC : x_C G 39 = G.2.2.2.1.2) (hd : decode M.2.1 pc = .ok (.arraylength, 1)) (k : x_W G M rm Qf ex n h cells slots lv (.int (Int32.ofNat L) :: st) (pc + 1)) : x_W G M rm Qf ex n h cells slots lv (.ref (x_N + 39) :: st) pc := by
  intro p e s m args below meth c F H locs ls hH hS hlv
  obtain ⟨f1, f2, f3, f4, f5, f6, f7, f8, hts, hK⟩ := id F
  have hk := k p e s m args below meth c F H locs ls hH hS hlv
  show W p _ e rm s m args below meth c H locs cells slots _ (F0 m pc ls (.ref (x_ad G (x_N + 39)) :: x_st G st))
  rw [x_adN, hC]
  exact va_slen f1 f2 (x_SX hK.2.1 hX) (Nat.lt_of_lt_of_le hK.2.1.1.2.2.2.2 hK.2.2.1) (A := x_A G) (Nat.not_le.mpr hK.2.1.1.2.2.2.2) hS hd hk
theorem x_ldS {i : Int32} (hX : va_X G.2.2.2.1.2 L xs (x_s0 G) (x_s0 G).heap) (hC : x_C G 39 = G.2.2.2.1.2) (hd : decode M.2.1 pc = .ok (.iaload, 1)) (hin : x_ix i L = true) (k : x_W G M rm Qf ex n h cells slots lv (.int (xs i.toNatClampNeg) :: st) (pc + 1)) : x_W G M rm Qf ex n h cells slots lv (.int i :: .ref (x_N + 39) :: st) pc := by
  intro p e s m args below meth c F H locs ls hH hS hlv
  obtain ⟨f1, f2, f3, f4, f5, f6, f7, f8, hts, hK⟩ := id F
  have hk := k p e s m args below meth c F H locs ls hH hS hlv
  show W p _ e rm s m args below meth c H locs cells slots _ (F0 m pc ls (.int i :: .ref (x_ad G (x_N + 39)) :: x_st G st))
  rw [x_adN, hC]
  exact va_sld f1 f2 (x_SX hK.2.1 hX) (Nat.lt_of_lt_of_le hK.2.1.1.2.2.2.2 hK.2.2.1) (A := x_A G) (Nat.not_le.mpr hK.2.1.1.2.2.2.2) hS (x_ix_ok hin) hd hk
theorem x_fSi {M2 : x_M} {index d2 c2 na : Nat} {m : x_m} {As : List Value} {r : Int32 × x_m} (hd : decode M.2.1 pc = .ok (.invokestatic index, 3)) (hlk : Cond.methodLink M.1.cls index M2.1 ∈ x_tsl) (hk : x_kS M2 na) (hR : x_R G M2 (x_rx d2 c2) ex As x_np (x_hp m) (x_pi r)) (hna : As.length = na)
    (hrm : x_rm rm (x_rx d2 c2) M2) (hal : (lg_sl As).length ≤ M2.2.2.1) (hw : (st.map fun v => v.category).sum ≤ 8) (hc1 : cells + c2 ≤ rm.cells) (hs1 : slots + 6 * c2 ≤ rm.slots) (hst : stk = As.reverse ++ st)
    (kk : x_W G M rm Qf ex x_np (x_hp r.2) (cells + c2) (slots + 6 * c2) lv (.int r.1 :: st) (pc + 3)) : x_W G M rm Qf ex x_np (x_hp m) cells slots lv stk pc := by
  obtain ⟨k1, k2, k3, k4, k5⟩ := hk
  subst hna
  refine x_callS hd hR k1 hlk k2 k3 k4 k5 hrm hc1 hs1 hal hw hst ?_ ?_
  · rintro v n' h' ⟨h1, rfl, rfl⟩
    cases h1
    exact kk
  · rintro Y n' h' ⟨h1, -, -⟩
    cases h1
end XL
