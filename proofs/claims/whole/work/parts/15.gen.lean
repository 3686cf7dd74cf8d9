/-! what the written walks use -/
def x_fu : Nat := 200000
theorem x_gd {α : Type} {c : Bool} {A : Option α} {r : α} (h : (if c = true then A else none) = some r) : c = true ∧ A = some r := by
  cases c with
  | true => exact ⟨rfl, h⟩
  | false => exact nomatch h
theorem x_it {α : Type} {c : Prop} [Decidable c] {A B : Option α} {r : α} (h : (if c then A else B) = some r) (hc : c) : A = some r := by rw [if_pos hc] at h; exact h
theorem x_ie {α : Type} {c : Prop} [Decidable c] {A B : Option α} {r : α} (h : (if c then A else B) = some r) (hc : ¬ c) : B = some r := by rw [if_neg hc] at h; exact h
theorem x_bd {α β : Type} {A : Option α} {f : α → Option β} {r : β} (h : A.bind f = some r) : ∃ a, A = some a ∧ f a = some r := Option.bind_eq_some_iff.mp h
theorem x_sbk {G : x_G} {M : x_M} {rm : Room} {Qf : List Frame → Array Value → State → State → Prop} {ex : Bool} {n : Nat} {h : x_h} {cells slots : Nat} {lv lv2 : List (Nat × Value)} {st : List Value} {pc : Nat} (ks : List Nat) (hq : ks.filterMap (fun k => lv[k]?) = lv2) (k : x_W G M rm Qf ex n h cells slots lv2 st pc) : x_W G M rm Qf ex n h cells slots lv st pc :=
  x_sub (fun q hq2 => by
    subst hq
    obtain ⟨i, -, hi⟩ := List.mem_filterMap.mp hq2
    exact List.mem_of_getElem? hi) k
