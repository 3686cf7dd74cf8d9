/-! arraycopy between arrays of the heap -/
def x_wC (m : x_m) (a0 a1 sp dp n : Nat) : x_m := (m.1, fun p => if p = a1 then va_cpy (m.2.1 a0) (m.2.1 a1) sp dp n else m.2.1 p, m.2.2)
def x_cg (sp dp n : Int32) (l0 l1 : Nat) : Bool := decide (¬ sp < 0) && (decide (¬ dp < 0) && (decide (¬ n < 0) && (decide (sp.toNatClampNeg + n.toNatClampNeg ≤ l0) && decide (dp.toNatClampNeg + n.toNatClampNeg ≤ l1))))
def x_cb (m : x_m) (a0 : Nat) (sp n : Int32) : Bool := (List.range n.toNatClampNeg).all (fun i => fits .byte (.int (m.2.1 a0 (sp.toNatClampNeg + i))))
theorem x_up_C {m : x_m} {a0 p t n : Nat} (sp dp k : Nat) (hs : x_shape p = .inr (.inl (t, n))) : va_up (x_hp m) p (.inl (t, n, .inl (va_cpy (m.2.1 a0) (m.2.1 p) sp dp k))) = x_hp (x_wC m a0 p sp dp k) := by
  funext q
  by_cases e : q = p
  · subst e
    rw [va_up_self, x_hp_i hs]
    show _ = (Sum.inl (t, n, .inl (if q = q then va_cpy (m.2.1 a0) (m.2.1 q) sp dp k else m.2.1 q)) : va_E)
    rw [if_pos rfl]
  · rw [va_up_ne _ _ e]
    unfold x_hp
    cases x_shape q with
    | inl z => rfl
    | inr z =>
      match z with
      | .inl (t1, n1) =>
        show _ = (Sum.inl (t1, n1, .inl (if q = p then va_cpy (m.2.1 a0) (m.2.1 p) sp dp k else m.2.1 q)) : va_E)
        rw [if_neg e]
      | .inr (.inl (t1, n1)) => rfl
      | .inr (.inr (t1, n1, f1)) => rfl
section XJ
variable {G : x_G} {M : x_M} {rm : Room} {Qf : List Frame → Array Value → State → State → Prop} {ex : Bool} {n : Nat} {h : x_h} {cells slots : Nat} {lv : List (Nat × Value)} {st : List Value} {pc index : Nat}
theorem x_copyH {a0 a1 t l0 l1 : Nat} {f g : Nat → Int32} {ty : FieldType} {sp dp k : Int32} (hd : decode M.2.1 pc = .ok (.invokestatic index, 3)) (hlk : Cond.methodLink M.1.cls index arraycopyName ∈ x_tsl) (hw1 : Cond.native arraycopyName ∈ x_tsl) (hw2 : Cond.static arraycopyName ∈ x_tsl) (hw3 : Cond.initialized "java/lang/System" ∈ x_tsl)
    (ht : x_tl[t]? = some ty) (hprim : refKind ty = false) (ha0 : a0 < n) (hc0 : h a0 = .inl (t, l0, .inl f)) (ha1 : a1 < n) (hc1 : h a1 = .inl (t, l1, .inl g)) (hg : x_cg sp dp k l0 l1 = true) (hfit : ∀ i, i < k.toNatClampNeg → fits ty (.int (f (sp.toNatClampNeg + i))) = true)
    (hfr : 1 ≤ rm.frames) (hlo : (st.map fun v => v.category).sum + (nativeFrameWords "java/lang/System" "arraycopy" 5 + 11) ≤ rm.locals)
    (kk : x_W G M rm Qf ex n (va_up h a1 (.inl (t, l1, .inl (va_cpy f g sp.toNatClampNeg dp.toNatClampNeg k.toNatClampNeg)))) cells slots lv st (pc + 3)) : x_W G M rm Qf ex n h cells slots lv (.int k :: .int dp :: .ref a1 :: .int sp :: .ref a0 :: st) pc := by
  intro p e s m args below meth c F H locs ls hH hS hl T hT X
  obtain ⟨f1, f2, f3, f4, f5, f6, f7, f8, hts, hK⟩ := id F
  simp only [x_cg, Bool.and_eq_true, decide_eq_true_eq] at hg
  obtain ⟨h1, h2, h3, h4, h5⟩ := hg
  have nn : ∀ z : Int32, ¬ z < 0 → z.toInt = (z.toNatClampNeg : Int) := by
    intro z hz
    have hz0 : (0 : Int) ≤ z.toInt := by
      have := Int32.not_lt.mp hz
      simpa using Int32.le_iff_toInt_le.mp this
    show z.toInt = ((z.toInt.toNat : Nat) : Int)
    omega
  have hc0' : H[x_B G + a0]? = some (vp_cell (x_c G t) (l0, .inl f)) := (hH.at ha0 hc0) 0 _ rfl
  have hc1' : H[x_B G + a1]? = some (vp_cell (x_c G t) (l1, .inl g)) := (hH.at ha1 hc1) 0 _ rfl
  obtain ⟨-, k0, hk0, cm0, hkk0⟩ := (hK.1.2 t _ (x_ty_at ht)).1 l0 (fun j => .int (f j))
  obtain ⟨-, k1, hk1, cm1, hkk1⟩ := (hK.1.2 t _ (x_ty_at ht)).1 l1 (fun j => .int (g j))
  have e5 : F0 m pc ls (x_st G (.int k :: .int dp :: .ref a1 :: .int sp :: .ref a0 :: st)) = F0 m pc ls (.int k :: .int dp :: .ref (x_B G + a1) :: .int sp :: .ref (x_B G + a0) :: x_st G st) := by
    show F0 m pc ls (.int k :: .int dp :: .ref (x_ad G a1) :: .int sp :: .ref (x_ad G a0) :: x_st G st) = _
    rw [x_ad_new (Nat.lt_of_lt_of_le ha0 hH.1), x_ad_new (Nat.lt_of_lt_of_le ha1 hH.1)]
  rw [e5]
  obtain ⟨vm', X', step⟩ := X.arraycopy f1 f6 (hts _ hlk) (hts _ hw1) (hts _ hw2) (hts _ hw3) (src := x_B G + a0) (dst := x_B G + a1) (cs := vp_cell (x_c G t) (l0, .inl f)) (cd := vp_cell (x_c G t) (l1, .inl g)) (srcPos := sp) (destPos := dp) (n := k) (by rw [hT]; exact hc0') (by rw [hT]; exact hc1')
    (fun _ z => by cases z) (fun _ z => by cases z) (fun z => by cases z) (fun z => by cases z) hk0 hk1 hkk0 hkk1 (by simp [hprim]) h1 h2 h3
    (by rw [nn sp h1, nn k h3]; show ¬ _ > ((arrV (x_c G t) l0 (fun j => .int (f j))).slots.size : Int); rw [arrV_size]; omega)
    (by rw [nn dp h2, nn k h3]; show ¬ _ > ((arrV (x_c G t) l1 (fun j => .int (g j))).slots.size : Int); rw [arrV_size]; omega)
    (fun vm₁ _ i hi => by
      have e : (vp_cell (x_c G t) (l0, .inl f)).slots.getD (sp.toNatClampNeg + i) .null = .int (f (sp.toNatClampNeg + i)) := by
        show (arrV (x_c G t) l0 (fun j => .int (f j))).slots.getD _ _ = _
        rw [Array.getD_eq_getD_getElem?, arrV_read _ _ (by omega)]
        rfl
      refine ⟨?_, ?_⟩
      · rw [e]
        exact hfit i hi
      · rw [e]
        exact trivial)
    (g := F0 m pc ls (.int k :: .int dp :: .ref (x_B G + a1) :: .int sp :: .ref (x_B G + a0) :: x_st G st)) rfl (hl.1.trans f3.symm) (rest := x_st G st) rfl (by rw [f2]; exact hd) hfr (by show 2 * 0 + _ + _ ≤ _; rw [x_stW]; omega)
  have e1 : copied (vp_cell (x_c G t) (l0, .inl f)) (vp_cell (x_c G t) (l1, .inl g)) sp dp k = vp_cell (x_c G t) (l1, .inl (va_cpy f g sp.toNatClampNeg dp.toNatClampNeg k.toNatClampNeg)) := va_copied (fun z => .int z) (x_c G t) (x_c G t) f g h4
  rw [e1] at X' step
  have hlt : x_B G + a1 < H.size := (Array.getElem?_eq_some_iff.mp hc1').1
  generalize hN : vp_cell (x_c G t) (l1, .inl (va_cpy f g sp.toNatClampNeg dp.toNatClampNeg k.toNatClampNeg)) = N at X' step
  have hheap : ((T.setVm vm').setCell (x_B G + a1) N).heap = H.setIfInBounds (x_B G + a1) N := by rw [← hT]; rfl
  have oq : ∀ q : Nat, q ≠ x_B G + a1 → (H.setIfInBounds (x_B G + a1) N)[q]? = H[q]? := fun q hq => by simp [Array.getElem?_setIfInBounds, Ne.symm hq]
  have z : (H.setIfInBounds (x_B G + a1) N).size = H.size := by simp
  have hA1 : (H.setIfInBounds (x_B G + a1) N)[x_B G + a1]? = some N := by simp [Array.getElem?_setIfInBounds, hlt]
  obtain ⟨t', b1, b2⟩ := kk p e s m args below meth c F (H.setIfInBounds (x_B G + a1) N) _ ls (hH.upd z oq (by show _ = some (vp_cell _ _); rw [hA1, ← hN]; rfl)) ⟨by rw [z]; exact hS.1, fun q g1 g2 => by
      rw [oq q (fun e => g2 (by rw [e]; exact Nat.le_add_right _ _))]
      exact hS.2.1 q g1 g2, fun q hq => by
      rcases List.mem_append.mp hq with y | y
      · exact hS.2.2 q y
      · obtain ⟨w, -, hw⟩ := List.mem_map.mp y
        rw [← hw]
        exact Nat.le_add_right _ _⟩ hl _ hheap X'
  exact ⟨t', step t' b1, b2⟩
end XJ
