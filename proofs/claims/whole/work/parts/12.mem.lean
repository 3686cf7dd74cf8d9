/-! the shape of the heap behind the two constructors: 0 .. 386 the class, 387 .. 423 the reference, 424 the law's own array.
An object: its class, its fields (a reference that stays, an int, a reference that may change); an array of ints, of longs, of references that stay. -/
abbrev x_S : Type := (Nat × List (Nat ⊕ Bool)) ⊕ (Nat × Nat) ⊕ (Nat × Nat) ⊕ (Nat × Nat × (Nat → Option Nat))
/-- ints of objects, ints of arrays, references of objects, longs of arrays -/
abbrev x_m : Type := (Nat → Nat → Int32) × (Nat → Nat → Int32) × (Nat → Nat → Nat) × (Nat → Nat → Int64)
def x_shD (b j : Nat) : x_S := match j with
  | 0 => .inl (5, [.inr false, .inr false, .inr false, .inl (b + 1), .inl (b + 6), .inl (b + 7), .inl (b + 12)])
  | 1 => .inr (.inr (.inr (6, 4, fun i => if i < 4 then some (b + 2 + i) else none)))
  | 7 => .inr (.inr (.inr (6, 4, fun i => if i < 4 then some (b + 8 + i) else none)))
  | 12 => .inr (.inl (0, 4))
  | _ => .inr (.inl (0, 1000))
def x_shC (b : Nat) : x_S := .inl (10, [.inr false, .inr false, .inr false, .inr false, .inr false, .inl (b + 1)])
def x_shQ (b j : Nat) : x_S := match j with
  | 0 => .inl (8, [.inr false, .inl (b + 1), .inl (b + 2), .inl (b + 3), .inr false, .inl (b + 4), .inr false, .inl (b + 5), .inl (b + 6)])
  | 1 => .inr (.inl (0, 24))
  | 2 => .inr (.inl (0, 24))
  | 3 => .inr (.inl (0, 24))
  | 4 => .inr (.inl (0, 8))
  | 5 => .inr (.inl (0, 32))
  | 6 => .inl (9, [.inr false, .inr false, .inl (b + 7), .inr false, .inl (b + 8), .inl (b + 9), .inl (b + 10), .inl (b + 11), .inl (b + 12), .inl (b + 13), .inl (b + 14), .inl (b + 15)])
  | 7 => .inr (.inr (.inr (5, 60, fun i => if i < 60 then some (b + 16 + 2 * i) else none)))
  | 8 => .inr (.inl (0, 59))
  | 9 => .inr (.inl (0, 59))
  | 10 => .inr (.inl (2, 59))
  | 11 => .inr (.inl (2, 119))
  | 12 => .inr (.inl (2, 119))
  | 13 => .inr (.inl (0, 41))
  | 14 => .inr (.inl (0, 41))
  | 15 => .inr (.inl (2, 41))
  | j + 16 => if j % 2 = 0 then x_shC (b + 16 + j) else .inr (.inl (0, 40))
def x_shM (b j : Nat) : x_S := match j with
  | 0 => .inl (12, [.inr false, .inl (b + 1), .inl (b + 2), .inl (b + 3), .inr false, .inl (b + 4), .inr false, .inl (b + 5), .inl (b + 6), .inr false, .inl (b + 7), .inr false, .inl (b + 8), .inr false, .inl (b + 9), .inl (b + 10), .inl (b + 11), .inl (b + 12), .inl (b + 13)])
  | 1 => .inr (.inl (0, 24))
  | 2 => .inr (.inl (0, 24))
  | 3 => .inr (.inl (0, 24))
  | 4 => .inr (.inl (0, 8))
  | 5 => .inr (.inl (0, 8))
  | 6 => .inr (.inl (0, 8))
  | 7 => .inr (.inl (0, 32))
  | 8 => .inr (.inl (0, 2600))
  | 9 => .inr (.inl (0, 60))
  | 10 => .inr (.inl (0, 60))
  | 11 => .inr (.inl (0, 60))
  | 12 => .inr (.inl (0, 60))
  | _ => .inr (.inl (0, 2400))
def x_shape (p : Nat) : x_S :=
  if p < 9 then (match p with
    | 0 => .inl (0, [.inl (1), .inl (3), .inl (4), .inl (113), .inl (114)])
    | 1 => .inl (1, [.inl (2), .inr false])
    | 2 => .inr (.inl (1, 65536))
    | 3 => .inl (2, [.inl (1), .inr true, .inr false, .inr false, .inr false, .inr false, .inr false, .inr false, .inr false])
    | 4 => .inl (3, [.inl (5), .inl (8), .inr false, .inr false, .inr false])
    | 5 => .inl (4, [.inl (6), .inl (7)])
    | 6 => .inr (.inl (1, 1920))
    | 7 => .inr (.inl (0, 48))
    | _ => .inr (.inr (.inr (4, 8, fun i => if i < 8 then some (9 + 13 * i) else none))))
  else if p < 113 then x_shD (9 + 13 * ((p - 9) / 13)) ((p - 9) % 13)
  else if p = 113 then .inl (6, [.inl (3), .inl (4), .inl (5)])
  else if p = 114 then .inl (7, [.inl (3), .inl (4), .inl (5), .inr true, .inr true])
  else if p < 251 then x_shQ 115 (p - 115)
  else if p < 387 then x_shQ 251 (p - 251)
  else if p < 395 then (match p - 387 with
    | 0 => .inl (11, [.inl (x_N + 37), .inr false, .inr false, .inl (388), .inr false, .inr false, .inr false, .inr false, .inr false, .inr false, .inr false, .inr false, .inr false, .inr false, .inl (389), .inl (390), .inl (391), .inl (392), .inr false, .inl (393), .inl (394), .inr true, .inr true, .inr false, .inr false, .inr false, .inl (423)])
    | 1 => .inr (.inl (1, 65536))
    | 2 => .inr (.inl (0, 8))
    | 3 => .inr (.inl (0, 8))
    | 4 => .inr (.inl (0, 32000))
    | 5 => .inr (.inl (0, 8))
    | 6 => .inr (.inl (1, 1920))
    | _ => .inr (.inl (0, 48)))
  else if p < 409 then x_shM 395 (p - 395)
  else if p < 423 then x_shM 409 (p - 409)
  else if p = 423 then .inr (.inl (2, 64))
  else .inr (.inr (.inl (3, 1)))
def x_fv (m : x_m) (p j : Nat) : Nat ⊕ Bool → Value
  | .inl c => .ref c
  | .inr false => .int (m.1 p j)
  | .inr true => .ref (m.2.2.1 p j)
def x_fs (m : x_m) (p : Nat) (tp : List (Nat ⊕ Bool)) : List Value := tp.mapIdx (x_fv m p)
def x_hp (m : x_m) : x_h := fun p => match x_shape p with
  | .inl (ci, tp) => .inr (ci, x_fs m p tp)
  | .inr (.inl (t, n)) => .inl (t, n, .inl (m.2.1 p))
  | .inr (.inr (.inl (t, n))) => .inl (t, n, .inr (.inl (m.2.2.2 p)))
  | .inr (.inr (.inr (t, n, f))) => .inl (t, n, .inr (.inr (.inr (.inr f))))
def x_u2 {α : Type} (f : Nat → Nat → α) (p j : Nat) (v : α) : Nat → Nat → α := fun a b => if a = p ∧ b = j then v else f a b
def x_wS (m : x_m) (p j : Nat) (v : Int32) : x_m := (x_u2 m.1 p j v, m.2)
def x_wA (m : x_m) (p j : Nat) (v : Int32) : x_m := (m.1, x_u2 m.2.1 p j v, m.2.2)
def x_wR (m : x_m) (p j : Nat) (v : Nat) : x_m := (m.1, m.2.1, x_u2 m.2.2.1 p j v, m.2.2.2)
def x_wL (m : x_m) (p j : Nat) (v : Int64) : x_m := (m.1, m.2.1, m.2.2.1, x_u2 m.2.2.2 p j v)
/-- how many places there are -/
abbrev x_np : Nat := 425
-- the heap by its shape
theorem x_hp_o {m : x_m} {p ci : Nat} {tp : List (Nat ⊕ Bool)} (h : x_shape p = .inl (ci, tp)) : x_hp m p = .inr (ci, x_fs m p tp) := by unfold x_hp; rw [h]
theorem x_hp_i {m : x_m} {p t n : Nat} (h : x_shape p = .inr (.inl (t, n))) : x_hp m p = .inl (t, n, .inl (m.2.1 p)) := by unfold x_hp; rw [h]
theorem x_hp_l {m : x_m} {p t n : Nat} (h : x_shape p = .inr (.inr (.inl (t, n)))) : x_hp m p = .inl (t, n, .inr (.inl (m.2.2.2 p))) := by unfold x_hp; rw [h]
theorem x_hp_r {m : x_m} {p t n : Nat} {f : Nat → Option Nat} (h : x_shape p = .inr (.inr (.inr (t, n, f)))) : x_hp m p = .inl (t, n, .inr (.inr (.inr (.inr f)))) := by unfold x_hp; rw [h]
theorem x_u2_row {α : Type} (f : Nat → Nat → α) {p a : Nat} (j : Nat) (v : α) (h : a ≠ p) : x_u2 f p j v a = f a := by
  funext b
  exact if_neg (fun z => h z.1)
theorem x_u2_own {α : Type} (f : Nat → Nat → α) (p j : Nat) (v : α) : x_u2 f p j v p = fun b => if b = j then v else f p b := by
  funext b
  by_cases h : b = j
  · exact (if_pos ⟨rfl, h⟩).trans (if_pos h).symm
  · exact (if_neg (fun z => h z.2)).trans (if_neg h).symm
theorem x_fs_get {m : x_m} {p : Nat} {tp : List (Nat ⊕ Bool)} {k : Nat} {e : Nat ⊕ Bool} (h : tp[k]? = some e) : (x_fs m p tp)[k]? = some (x_fv m p k e) := by
  unfold x_fs
  rw [List.getElem?_mapIdx, h]
  rfl
theorem x_fs_ne {m : x_m} {p q k : Nat} (v : Int32) (tp : List (Nat ⊕ Bool)) (h : q ≠ p) : x_fs (x_wS m p k v) q tp = x_fs m q tp := by
  unfold x_fs
  congr 1
  funext j e
  match e with
  | .inl c => rfl
  | .inr true => rfl
  | .inr false => exact congrArg Value.int (congrFun (x_u2_row m.1 k v h) j)
theorem x_fsR_ne {m : x_m} {p q k : Nat} (v : Nat) (tp : List (Nat ⊕ Bool)) (h : q ≠ p) : x_fs (x_wR m p k v) q tp = x_fs m q tp := by
  unfold x_fs
  congr 1
  funext j e
  match e with
  | .inl c => rfl
  | .inr true => exact congrArg Value.ref (congrFun (x_u2_row m.2.2.1 k v h) j)
  | .inr false => rfl
theorem x_fs_set {m : x_m} {p k : Nat} (v : Int32) {tp : List (Nat ⊕ Bool)} (h : tp[k]? = some (.inr false)) : (x_fs m p tp).set k (.int v) = x_fs (x_wS m p k v) p tp := by
  apply List.ext_getElem?
  intro j
  unfold x_fs
  by_cases e : j = k
  · subst e
    have hl : j < tp.length := (List.getElem?_eq_some_iff.mp h).1
    rw [List.getElem?_set_self (by rw [List.length_mapIdx]; exact hl), List.getElem?_mapIdx, h]
    show some (Value.int v) = some (.int (x_u2 m.1 p j v p j))
    rw [show x_u2 m.1 p j v p j = v from if_pos ⟨rfl, rfl⟩]
  · rw [List.getElem?_set_ne (Ne.symm e), List.getElem?_mapIdx, List.getElem?_mapIdx]
    cases hj : tp[j]? with
    | none => rfl
    | some x =>
      match x with
      | .inl c => rfl
      | .inr true => rfl
      | .inr false => exact congrArg (fun z => some (Value.int z)) (if_neg (fun z => e z.2)).symm
theorem x_fsR_set {m : x_m} {p k : Nat} (v : Nat) {tp : List (Nat ⊕ Bool)} (h : tp[k]? = some (.inr true)) : (x_fs m p tp).set k (.ref v) = x_fs (x_wR m p k v) p tp := by
  apply List.ext_getElem?
  intro j
  unfold x_fs
  by_cases e : j = k
  · subst e
    have hl : j < tp.length := (List.getElem?_eq_some_iff.mp h).1
    rw [List.getElem?_set_self (by rw [List.length_mapIdx]; exact hl), List.getElem?_mapIdx, h]
    show some (Value.ref v) = some (.ref (x_u2 m.2.2.1 p j v p j))
    rw [show x_u2 m.2.2.1 p j v p j = v from if_pos ⟨rfl, rfl⟩]
  · rw [List.getElem?_set_ne (Ne.symm e), List.getElem?_mapIdx, List.getElem?_mapIdx]
    cases hj : tp[j]? with
    | none => rfl
    | some x =>
      match x with
      | .inl c => rfl
      | .inr false => rfl
      | .inr true => exact congrArg (fun z => some (Value.ref z)) (if_neg (fun z => e z.2)).symm
theorem x_up_S {m : x_m} {p ci k : Nat} {tp : List (Nat ⊕ Bool)} (v : Int32) (hs : x_shape p = .inl (ci, tp)) (h : tp[k]? = some (.inr false)) : va_up (x_hp m) p (.inr (ci, (x_fs m p tp).set k (.int v))) = x_hp (x_wS m p k v) := by
  funext q
  by_cases e : q = p
  · subst e
    rw [va_up_self, x_hp_o hs, x_fs_set v h]
  · rw [va_up_ne _ _ e]
    unfold x_hp
    cases x_shape q with
    | inl z => show Sum.inr (z.1, _) = Sum.inr (z.1, _); rw [x_fs_ne v z.2 e]
    | inr z => match z with
      | .inl (t1, n1) => rfl
      | .inr (.inl (t1, n1)) => rfl
      | .inr (.inr (t1, n1, f1)) => rfl
theorem x_up_R {m : x_m} {p ci k : Nat} {tp : List (Nat ⊕ Bool)} (v : Nat) (hs : x_shape p = .inl (ci, tp)) (h : tp[k]? = some (.inr true)) : va_up (x_hp m) p (.inr (ci, (x_fs m p tp).set k (.ref v))) = x_hp (x_wR m p k v) := by
  funext q
  by_cases e : q = p
  · subst e
    rw [va_up_self, x_hp_o hs, x_fsR_set v h]
  · rw [va_up_ne _ _ e]
    unfold x_hp
    cases x_shape q with
    | inl z => show Sum.inr (z.1, _) = Sum.inr (z.1, _); rw [x_fsR_ne v z.2 e]
    | inr z => match z with
      | .inl (t1, n1) => rfl
      | .inr (.inl (t1, n1)) => rfl
      | .inr (.inr (t1, n1, f1)) => rfl
theorem x_up_A {m : x_m} {p t n : Nat} (j : Nat) (v : Int32) (hs : x_shape p = .inr (.inl (t, n))) : va_up (x_hp m) p (.inl (t, n, .inl (upd (m.2.1 p) j v))) = x_hp (x_wA m p j v) := by
  funext q
  by_cases e : q = p
  · subst e
    rw [va_up_self, x_hp_i hs]
    show _ = (Sum.inl (t, n, .inl (x_u2 m.2.1 q j v q)) : va_E)
    rw [x_u2_own]; rfl
  · rw [va_up_ne _ _ e]
    unfold x_hp
    cases x_shape q with
    | inl z => rfl
    | inr z =>
      match z with
      | .inl (t1, n1) =>
        show _ = (Sum.inl (t1, n1, .inl (x_u2 m.2.1 p j v q)) : va_E)
        rw [x_u2_row _ _ _ e]
      | .inr (.inl (t1, n1)) => rfl
      | .inr (.inr (t1, n1, f1)) => rfl
theorem x_up_L {m : x_m} {p t n : Nat} (j : Nat) (v : Int64) (hs : x_shape p = .inr (.inr (.inl (t, n)))) : va_up (x_hp m) p (.inl (t, n, .inr (.inl (vp_updL (m.2.2.2 p) j v)))) = x_hp (x_wL m p j v) := by
  funext q
  by_cases e : q = p
  · subst e
    rw [va_up_self, x_hp_l hs]
    show _ = (Sum.inl (t, n, .inr (.inl (x_u2 m.2.2.2 q j v q))) : va_E)
    rw [x_u2_own]; rfl
  · rw [va_up_ne _ _ e]
    unfold x_hp
    cases x_shape q with
    | inl z => rfl
    | inr z =>
      match z with
      | .inl (t1, n1) => rfl
      | .inr (.inl (t1, n1)) =>
        show _ = (Sum.inl (t1, n1, .inr (.inl (x_u2 m.2.2.2 p j v q))) : va_E)
        rw [x_u2_row _ _ _ e]
      | .inr (.inr (t1, n1, f1)) => rfl
