/-! what is known at the law's entry -/
def x_evR (t : Term) (b : Nat) (s : State) : Nat := match t.eval #[Value.ref b] s none [] s with
  | some (.ref a) => a
  | _ => 0
theorem x_evR_ok {t : Term} {b a : Nat} {s : State} (h : t.eval #[Value.ref b] s none [] s = some (.ref a)) : x_evR t b s = a := by unfold x_evR; rw [h]
def x_tm (i : Nat) : Term :=
  if i < 36 then .static "QuestionReader$Kind" (x_kn.getD i "") "LQuestionReader$Kind;"
  else if i = 36 then .static "QuestionReader$Kind" "ALL" "[LQuestionReader$Kind;"
  else if i = 37 then .string "QuestionReaderModel" 7
  else if i = 38 then .field (.string "QuestionReaderModel" 7) "java/lang/String" "value" "[B"
  else if i = 40 then .string "QuestionReader" 55
  else if i = 41 then .string "QuestionReader" 223
  else if i = 42 then .string "QuestionReader" 137
  else if i = 43 then .string "QuestionReader" 221
  else if i = 44 then .string "QuestionReader" 211
  else .static "jdk/internal/util/Preconditions" "SIOOBE_FORMATTER" "Ljava/util/function/BiFunction;"
def x_cn0 (b : Nat) (s : State) (i : Nat) : Nat := if i = 39 then b else x_evR (x_tm i) b s
def x_gs (l : Launch) (D : va_G) (cA : Nat → ClassId) (s : State) (b : Nat) : x_G := (l, D, cA, (s, b), x_cn0 b s)
theorem x_exr {t : Term} {nm : String} {b : Nat} {s : State} (h : (Cond.exactly t nm).before #[Value.ref b] s = true) : t.eval #[Value.ref b] s none [] s = some (.ref (x_evR t b s)) := by
  obtain ⟨a2, c, cA, kA, q1, -⟩ := Cond.exactly_spec (args := #[Value.ref b]) (first := s) (o := none) (s := s) (idx := []) (t := t) (cls := nm) h
  rw [x_evR_ok q1]; exact q1
theorem x_eqr {t u : Term} {b a : Nat} {s : State} (h : (Cond.eq t u).before #[Value.ref b] s = true) (hu : u.eval #[Value.ref b] s none [] s = some (.ref a)) : t.eval #[Value.ref b] s none [] s = some (.ref a) := by
  cases hv : t.eval #[Value.ref b] s none [] s with
  | none => simp [Cond.before, Cond.holds, Cond.value, hv] at h
  | some w =>
    simp only [Cond.before, Cond.holds, Cond.value, hv, hu] at h
    cases w <;> simp_all
section XB
variable {b : Nat} {s : State} {A : Nat → Prop}
theorem x_kz {nm : String} {v : Int64} (hA : ∀ a : Nat, a < s.heap.size → ¬ A a) (hl : (Cond.laysStatic "QuestionReader$Kind" nm "LQuestionReader$Kind;").before #[Value.ref b] s = true) (hini : (Cond.initialized "QuestionReader$Kind").before #[Value.ref b] s = true) (hex : (Cond.exactly (.static "QuestionReader$Kind" nm "LQuestionReader$Kind;") "QuestionReader$Kind").before #[Value.ref b] s = true)
    (hkey : (Cond.eq (.field (.static "QuestionReader$Kind" nm "LQuestionReader$Kind;") "QuestionReader$Kind" "key" "J") (.long v)).before #[Value.ref b] s = true) : va_Z "QuestionReader$Kind" nm "LQuestionReader$Kind;" (.ref (x_evR (.static "QuestionReader$Kind" nm "LQuestionReader$Kind;") b s)) A s s.heap ∧ va_OF "QuestionReader$Kind" "key" "J" (.long v) (x_evR (.static "QuestionReader$Kind" nm "LQuestionReader$Kind;") b s) A s s.heap :=
  ⟨va_Zof hl hini (x_exr hex) hA, vk_OFof (x_exr hex) (va_eqtl hkey) hA⟩
end XB
/-- the facts of the entry -/
def x_B0 (l : Launch) (s : State) (b : Nat) : Prop := l.flags = flags0 ∧ (∀ w ∈ lw_tbl, w.before #[Value.ref b] s = true) ∧ (Jvm.Cond.and given_1 narrow_1).before #[Value.ref b] s = true ∧ b < s.heap.size
theorem x_nb {l : Launch} {s : State} {b : Nat} {w : Cond} (h0 : x_B0 l s b) (i : Nat) (hi : (flatC narrow_1)[i]? = some w) : w.before #[Value.ref b] s = true := by
  have h := h0.2.2.1
  rw [Cond.before_and, Bool.and_eq_true] at h
  exact flat_of_before narrow_1 h.2 w (List.mem_of_getElem? hi)
theorem x_tb0 {w : Cond} (h : w ∈ x_tsl) : w ∈ lw_tbl := (List.mem_filter.mp h).1
theorem x_not0 {s : State} : ∀ a : Nat, a < s.heap.size → ¬ (fun q => s.heap.size ≤ q) a := fun a h => Nat.not_le.mpr h
theorem x_bk {l : Launch} {s : State} {b : Nat} (h0 : x_B0 l s b) : ∀ i, i < 36 → va_Z "QuestionReader$Kind" (x_kn.getD i "") "LQuestionReader$Kind;" (.ref (x_cn0 b s i)) (fun q => s.heap.size ≤ q) s s.heap ∧ va_OF "QuestionReader$Kind" "key" "J" (.long (x_kk.getD i 0)) (x_cn0 b s i) (fun q => s.heap.size ≤ q) s s.heap := fun i hi => match i, hi with
  | 0, _ => x_kz x_not0 (h0.2.1 _ wl_60) (h0.2.1 _ (x_tb0 w_5)) (x_nb h0 2 rfl) (x_nb h0 4 rfl)
  | 1, _ => x_kz x_not0 (h0.2.1 _ wl_423) (h0.2.1 _ (x_tb0 w_5)) (x_nb h0 55 rfl) (x_nb h0 57 rfl)
  | 2, _ => x_kz x_not0 (h0.2.1 _ wl_421) (h0.2.1 _ (x_tb0 w_5)) (x_nb h0 52 rfl) (x_nb h0 54 rfl)
  | 3, _ => x_kz x_not0 (h0.2.1 _ wl_404) (h0.2.1 _ (x_tb0 w_5)) (x_nb h0 8 rfl) (x_nb h0 10 rfl)
  | 4, _ => x_kz x_not0 (h0.2.1 _ wl_402) (h0.2.1 _ (x_tb0 w_5)) (x_nb h0 5 rfl) (x_nb h0 7 rfl)
  | 5, _ => x_kz x_not0 (h0.2.1 _ wl_505) (h0.2.1 _ (x_tb0 w_5)) (x_nb h0 79 rfl) (x_nb h0 81 rfl)
  | 6, _ => x_kz x_not0 (h0.2.1 _ wl_514) (h0.2.1 _ (x_tb0 w_5)) (x_nb h0 85 rfl) (x_nb h0 87 rfl)
  | 7, _ => x_kz x_not0 (h0.2.1 _ wl_520) (h0.2.1 _ (x_tb0 w_5)) (x_nb h0 88 rfl) (x_nb h0 90 rfl)
  | 8, _ => x_kz x_not0 (h0.2.1 _ wl_680) (h0.2.1 _ (x_tb0 w_5)) (x_nb h0 139 rfl) (x_nb h0 141 rfl)
  | 9, _ => x_kz x_not0 (h0.2.1 _ wl_491) (h0.2.1 _ (x_tb0 w_5)) (x_nb h0 76 rfl) (x_nb h0 78 rfl)
  | 10, _ => x_kz x_not0 (h0.2.1 _ wl_511) (h0.2.1 _ (x_tb0 w_5)) (x_nb h0 82 rfl) (x_nb h0 84 rfl)
  | 11, _ => x_kz x_not0 (h0.2.1 _ wl_585) (h0.2.1 _ (x_tb0 w_5)) (x_nb h0 106 rfl) (x_nb h0 108 rfl)
  | 12, _ => x_kz x_not0 (h0.2.1 _ wl_587) (h0.2.1 _ (x_tb0 w_5)) (x_nb h0 109 rfl) (x_nb h0 111 rfl)
  | 13, _ => x_kz x_not0 (h0.2.1 _ wl_589) (h0.2.1 _ (x_tb0 w_5)) (x_nb h0 112 rfl) (x_nb h0 114 rfl)
  | 14, _ => x_kz x_not0 (h0.2.1 _ wl_591) (h0.2.1 _ (x_tb0 w_5)) (x_nb h0 115 rfl) (x_nb h0 117 rfl)
  | 15, _ => x_kz x_not0 (h0.2.1 _ wl_593) (h0.2.1 _ (x_tb0 w_5)) (x_nb h0 118 rfl) (x_nb h0 120 rfl)
  | 16, _ => x_kz x_not0 (h0.2.1 _ wl_595) (h0.2.1 _ (x_tb0 w_5)) (x_nb h0 121 rfl) (x_nb h0 123 rfl)
  | 17, _ => x_kz x_not0 (h0.2.1 _ wl_692) (h0.2.1 _ (x_tb0 w_5)) (x_nb h0 142 rfl) (x_nb h0 144 rfl)
  | 18, _ => x_kz x_not0 (h0.2.1 _ wl_694) (h0.2.1 _ (x_tb0 w_5)) (x_nb h0 145 rfl) (x_nb h0 147 rfl)
  | 19, _ => x_kz x_not0 (h0.2.1 _ wl_696) (h0.2.1 _ (x_tb0 w_5)) (x_nb h0 148 rfl) (x_nb h0 150 rfl)
  | 20, _ => x_kz x_not0 (h0.2.1 _ wl_429) (h0.2.1 _ (x_tb0 w_5)) (x_nb h0 58 rfl) (x_nb h0 60 rfl)
  | 21, _ => x_kz x_not0 (h0.2.1 _ wl_522) (h0.2.1 _ (x_tb0 w_5)) (x_nb h0 91 rfl) (x_nb h0 93 rfl)
  | 22, _ => x_kz x_not0 (h0.2.1 _ wl_646) (h0.2.1 _ (x_tb0 w_5)) (x_nb h0 127 rfl) (x_nb h0 129 rfl)
  | 23, _ => x_kz x_not0 (h0.2.1 _ wl_652) (h0.2.1 _ (x_tb0 w_5)) (x_nb h0 130 rfl) (x_nb h0 132 rfl)
  | 24, _ => x_kz x_not0 (h0.2.1 _ wl_654) (h0.2.1 _ (x_tb0 w_5)) (x_nb h0 133 rfl) (x_nb h0 135 rfl)
  | 25, _ => x_kz x_not0 (h0.2.1 _ wl_656) (h0.2.1 _ (x_tb0 w_5)) (x_nb h0 136 rfl) (x_nb h0 138 rfl)
  | 26, _ => x_kz x_not0 (h0.2.1 _ wl_468) (h0.2.1 _ (x_tb0 w_5)) (x_nb h0 73 rfl) (x_nb h0 75 rfl)
  | 27, _ => x_kz x_not0 (h0.2.1 _ wl_460) (h0.2.1 _ (x_tb0 w_5)) (x_nb h0 61 rfl) (x_nb h0 63 rfl)
  | 28, _ => x_kz x_not0 (h0.2.1 _ wl_466) (h0.2.1 _ (x_tb0 w_5)) (x_nb h0 70 rfl) (x_nb h0 72 rfl)
  | 29, _ => x_kz x_not0 (h0.2.1 _ wl_462) (h0.2.1 _ (x_tb0 w_5)) (x_nb h0 64 rfl) (x_nb h0 66 rfl)
  | 30, _ => x_kz x_not0 (h0.2.1 _ wl_464) (h0.2.1 _ (x_tb0 w_5)) (x_nb h0 67 rfl) (x_nb h0 69 rfl)
  | 31, _ => x_kz x_not0 (h0.2.1 _ wl_572) (h0.2.1 _ (x_tb0 w_5)) (x_nb h0 103 rfl) (x_nb h0 105 rfl)
  | 32, _ => x_kz x_not0 (h0.2.1 _ wl_636) (h0.2.1 _ (x_tb0 w_5)) (x_nb h0 124 rfl) (x_nb h0 126 rfl)
  | 33, _ => x_kz x_not0 (h0.2.1 _ wl_529) (h0.2.1 _ (x_tb0 w_5)) (x_nb h0 94 rfl) (x_nb h0 96 rfl)
  | 34, _ => x_kz x_not0 (h0.2.1 _ wl_566) (h0.2.1 _ (x_tb0 w_5)) (x_nb h0 100 rfl) (x_nb h0 102 rfl)
  | 35, _ => x_kz x_not0 (h0.2.1 _ wl_555) (h0.2.1 _ (x_tb0 w_5)) (x_nb h0 97 rfl) (x_nb h0 99 rfl)
  | _ + 36, hz => absurd hz (by omega)
theorem x_be {l : Launch} {s : State} {b : Nat} (h0 : x_B0 l s b) : ∀ i, i < 36 → (Term.static "QuestionReader$Kind" (x_kn.getD i "") "LQuestionReader$Kind;").eval #[Value.ref b] s none [] s = some (.ref (x_cn0 b s i)) := fun i hi => match i, hi with
  | 0, _ => x_exr (x_nb h0 2 rfl)
  | 1, _ => x_exr (x_nb h0 55 rfl)
  | 2, _ => x_exr (x_nb h0 52 rfl)
  | 3, _ => x_exr (x_nb h0 8 rfl)
  | 4, _ => x_exr (x_nb h0 5 rfl)
  | 5, _ => x_exr (x_nb h0 79 rfl)
  | 6, _ => x_exr (x_nb h0 85 rfl)
  | 7, _ => x_exr (x_nb h0 88 rfl)
  | 8, _ => x_exr (x_nb h0 139 rfl)
  | 9, _ => x_exr (x_nb h0 76 rfl)
  | 10, _ => x_exr (x_nb h0 82 rfl)
  | 11, _ => x_exr (x_nb h0 106 rfl)
  | 12, _ => x_exr (x_nb h0 109 rfl)
  | 13, _ => x_exr (x_nb h0 112 rfl)
  | 14, _ => x_exr (x_nb h0 115 rfl)
  | 15, _ => x_exr (x_nb h0 118 rfl)
  | 16, _ => x_exr (x_nb h0 121 rfl)
  | 17, _ => x_exr (x_nb h0 142 rfl)
  | 18, _ => x_exr (x_nb h0 145 rfl)
  | 19, _ => x_exr (x_nb h0 148 rfl)
  | 20, _ => x_exr (x_nb h0 58 rfl)
  | 21, _ => x_exr (x_nb h0 91 rfl)
  | 22, _ => x_exr (x_nb h0 127 rfl)
  | 23, _ => x_exr (x_nb h0 130 rfl)
  | 24, _ => x_exr (x_nb h0 133 rfl)
  | 25, _ => x_exr (x_nb h0 136 rfl)
  | 26, _ => x_exr (x_nb h0 73 rfl)
  | 27, _ => x_exr (x_nb h0 61 rfl)
  | 28, _ => x_exr (x_nb h0 70 rfl)
  | 29, _ => x_exr (x_nb h0 64 rfl)
  | 30, _ => x_exr (x_nb h0 67 rfl)
  | 31, _ => x_exr (x_nb h0 103 rfl)
  | 32, _ => x_exr (x_nb h0 124 rfl)
  | 33, _ => x_exr (x_nb h0 94 rfl)
  | 34, _ => x_exr (x_nb h0 100 rfl)
  | 35, _ => x_exr (x_nb h0 97 rfl)
  | _ + 36, hz => absurd hz (by omega)
theorem x_bo {l : Launch} {s : State} {b : Nat} (h0 : x_B0 l s b) : ∀ i, i < 36 → (Term.field (.static "QuestionReader$Kind" (x_kn.getD i "") "LQuestionReader$Kind;") "java/lang/Enum" "ordinal" "I").eval #[Value.ref b] s none [] s = some (.int (Int32.ofNat i)) := fun i hi => match i, hi with
  | 0, _ => va_eqt (x_nb h0 3 rfl)
  | 1, _ => va_eqt (x_nb h0 56 rfl)
  | 2, _ => va_eqt (x_nb h0 53 rfl)
  | 3, _ => va_eqt (x_nb h0 9 rfl)
  | 4, _ => va_eqt (x_nb h0 6 rfl)
  | 5, _ => va_eqt (x_nb h0 80 rfl)
  | 6, _ => va_eqt (x_nb h0 86 rfl)
  | 7, _ => va_eqt (x_nb h0 89 rfl)
  | 8, _ => va_eqt (x_nb h0 140 rfl)
  | 9, _ => va_eqt (x_nb h0 77 rfl)
  | 10, _ => va_eqt (x_nb h0 83 rfl)
  | 11, _ => va_eqt (x_nb h0 107 rfl)
  | 12, _ => va_eqt (x_nb h0 110 rfl)
  | 13, _ => va_eqt (x_nb h0 113 rfl)
  | 14, _ => va_eqt (x_nb h0 116 rfl)
  | 15, _ => va_eqt (x_nb h0 119 rfl)
  | 16, _ => va_eqt (x_nb h0 122 rfl)
  | 17, _ => va_eqt (x_nb h0 143 rfl)
  | 18, _ => va_eqt (x_nb h0 146 rfl)
  | 19, _ => va_eqt (x_nb h0 149 rfl)
  | 20, _ => va_eqt (x_nb h0 59 rfl)
  | 21, _ => va_eqt (x_nb h0 92 rfl)
  | 22, _ => va_eqt (x_nb h0 128 rfl)
  | 23, _ => va_eqt (x_nb h0 131 rfl)
  | 24, _ => va_eqt (x_nb h0 134 rfl)
  | 25, _ => va_eqt (x_nb h0 137 rfl)
  | 26, _ => va_eqt (x_nb h0 74 rfl)
  | 27, _ => va_eqt (x_nb h0 62 rfl)
  | 28, _ => va_eqt (x_nb h0 71 rfl)
  | 29, _ => va_eqt (x_nb h0 65 rfl)
  | 30, _ => va_eqt (x_nb h0 68 rfl)
  | 31, _ => va_eqt (x_nb h0 104 rfl)
  | 32, _ => va_eqt (x_nb h0 125 rfl)
  | 33, _ => va_eqt (x_nb h0 95 rfl)
  | 34, _ => va_eqt (x_nb h0 101 rfl)
  | 35, _ => va_eqt (x_nb h0 98 rfl)
  | _ + 36, hz => absurd hz (by omega)
theorem x_bi {l : Launch} {s : State} {b : Nat} (h0 : x_B0 l s b) : ∀ i j, i < 36 → j < 36 → x_cn0 b s i = x_cn0 b s j → i = j := by
  intro i j hi hj e
  have h1 := x_bo h0 i hi
  have h2 := x_bo h0 j hj
  rw [va_fe (x_be h0 i hi), e] at h1
  rw [va_fe (x_be h0 j hj), h1] at h2
  have h3 : Int32.ofNat i = Int32.ofNat j := by injection h2 with h2; injection h2
  have h4 := congrArg Int32.toNatClampNeg h3
  rw [x_icl (by omega), x_icl (by omega)] at h4
  exact h4
theorem x_bel {l : Launch} {s : State} {b : Nat} (h0 : x_B0 l s b) : ∀ j, j < 36 → (Term.elem (.static "QuestionReader$Kind" "ALL" "[LQuestionReader$Kind;") (.int (Int32.ofNat j))).eval #[Value.ref b] s none [] s = some (.ref (x_cn0 b s j)) := fun j hj => match j, hj with
  | 0, _ => x_eqr (x_nb h0 16 rfl) (x_be h0 0 (by decide))
  | 1, _ => x_eqr (x_nb h0 17 rfl) (x_be h0 1 (by decide))
  | 2, _ => x_eqr (x_nb h0 18 rfl) (x_be h0 2 (by decide))
  | 3, _ => x_eqr (x_nb h0 19 rfl) (x_be h0 3 (by decide))
  | 4, _ => x_eqr (x_nb h0 20 rfl) (x_be h0 4 (by decide))
  | 5, _ => x_eqr (x_nb h0 21 rfl) (x_be h0 5 (by decide))
  | 6, _ => x_eqr (x_nb h0 22 rfl) (x_be h0 6 (by decide))
  | 7, _ => x_eqr (x_nb h0 23 rfl) (x_be h0 7 (by decide))
  | 8, _ => x_eqr (x_nb h0 24 rfl) (x_be h0 8 (by decide))
  | 9, _ => x_eqr (x_nb h0 25 rfl) (x_be h0 9 (by decide))
  | 10, _ => x_eqr (x_nb h0 26 rfl) (x_be h0 10 (by decide))
  | 11, _ => x_eqr (x_nb h0 27 rfl) (x_be h0 11 (by decide))
  | 12, _ => x_eqr (x_nb h0 28 rfl) (x_be h0 12 (by decide))
  | 13, _ => x_eqr (x_nb h0 29 rfl) (x_be h0 13 (by decide))
  | 14, _ => x_eqr (x_nb h0 30 rfl) (x_be h0 14 (by decide))
  | 15, _ => x_eqr (x_nb h0 31 rfl) (x_be h0 15 (by decide))
  | 16, _ => x_eqr (x_nb h0 32 rfl) (x_be h0 16 (by decide))
  | 17, _ => x_eqr (x_nb h0 33 rfl) (x_be h0 17 (by decide))
  | 18, _ => x_eqr (x_nb h0 34 rfl) (x_be h0 18 (by decide))
  | 19, _ => x_eqr (x_nb h0 35 rfl) (x_be h0 19 (by decide))
  | 20, _ => x_eqr (x_nb h0 36 rfl) (x_be h0 20 (by decide))
  | 21, _ => x_eqr (x_nb h0 37 rfl) (x_be h0 21 (by decide))
  | 22, _ => x_eqr (x_nb h0 38 rfl) (x_be h0 22 (by decide))
  | 23, _ => x_eqr (x_nb h0 39 rfl) (x_be h0 23 (by decide))
  | 24, _ => x_eqr (x_nb h0 40 rfl) (x_be h0 24 (by decide))
  | 25, _ => x_eqr (x_nb h0 41 rfl) (x_be h0 25 (by decide))
  | 26, _ => x_eqr (x_nb h0 42 rfl) (x_be h0 26 (by decide))
  | 27, _ => x_eqr (x_nb h0 43 rfl) (x_be h0 27 (by decide))
  | 28, _ => x_eqr (x_nb h0 44 rfl) (x_be h0 28 (by decide))
  | 29, _ => x_eqr (x_nb h0 45 rfl) (x_be h0 29 (by decide))
  | 30, _ => x_eqr (x_nb h0 46 rfl) (x_be h0 30 (by decide))
  | 31, _ => x_eqr (x_nb h0 47 rfl) (x_be h0 31 (by decide))
  | 32, _ => x_eqr (x_nb h0 48 rfl) (x_be h0 32 (by decide))
  | 33, _ => x_eqr (x_nb h0 49 rfl) (x_be h0 33 (by decide))
  | 34, _ => x_eqr (x_nb h0 50 rfl) (x_be h0 34 (by decide))
  | 35, _ => x_eqr (x_nb h0 51 rfl) (x_be h0 35 (by decide))
  | _ + 36, hz => absurd hz (by omega)
theorem x_bA {l : Launch} {s : State} {b : Nat} (h0 : x_B0 l s b) : va_Z "QuestionReader$Kind" "ALL" "[LQuestionReader$Kind;" (.ref (x_cn0 b s 36)) (fun q => s.heap.size ≤ q) s s.heap ∧ va_T (.object "QuestionReader$Kind") (x_cn0 b s 36) 36 (fun j => .ref (x_cn0 b s j)) (fun q => s.heap.size ≤ q) s s.heap := by
  obtain ⟨t, h1, h2⟩ := va_Tof (args := #[Value.ref b]) (s := s) (tm := .static "QuestionReader$Kind" "ALL" "[LQuestionReader$Kind;") (ty := .object "QuestionReader$Kind") (N := 36) (f := fun j => .ref (x_cn0 b s j)) (A := fun q => s.heap.size ≤ q) (by decide) (x_nb h0 13 rfl) (va_eqt (x_nb h0 14 rfl)) (x_bel h0) x_not0
  have e : x_cn0 b s 36 = t := x_evR_ok h1
  rw [e]
  exact ⟨va_Zof (h0.2.1 _ wl_409) (h0.2.1 _ (x_tb0 w_5)) h1 x_not0, h2⟩
set_option maxRecDepth 20000 in
theorem x_bb {l : Launch} {s : State} {b : Nat} (h0 : x_B0 l s b) : ∀ j, j < 109 → (Term.elem (.field (.string "QuestionReaderModel" 7) "java/lang/String" "value" "[B") (.int (Int32.ofNat j))).eval #[Value.ref b] s none [] s = some (.int (x_rs.getD j 0)) := fun j hj => match j, hj with
  | 0, _ => va_eqt (x_nb h0 335 rfl)
  | 1, _ => va_eqt (x_nb h0 336 rfl)
  | 2, _ => va_eqt (x_nb h0 337 rfl)
  | 3, _ => va_eqt (x_nb h0 338 rfl)
  | 4, _ => va_eqt (x_nb h0 339 rfl)
  | 5, _ => va_eqt (x_nb h0 340 rfl)
  | 6, _ => va_eqt (x_nb h0 341 rfl)
  | 7, _ => va_eqt (x_nb h0 342 rfl)
  | 8, _ => va_eqt (x_nb h0 343 rfl)
  | 9, _ => va_eqt (x_nb h0 344 rfl)
  | 10, _ => va_eqt (x_nb h0 345 rfl)
  | 11, _ => va_eqt (x_nb h0 346 rfl)
  | 12, _ => va_eqt (x_nb h0 347 rfl)
  | 13, _ => va_eqt (x_nb h0 348 rfl)
  | 14, _ => va_eqt (x_nb h0 349 rfl)
  | 15, _ => va_eqt (x_nb h0 350 rfl)
  | 16, _ => va_eqt (x_nb h0 351 rfl)
  | 17, _ => va_eqt (x_nb h0 352 rfl)
  | 18, _ => va_eqt (x_nb h0 353 rfl)
  | 19, _ => va_eqt (x_nb h0 354 rfl)
  | 20, _ => va_eqt (x_nb h0 355 rfl)
  | 21, _ => va_eqt (x_nb h0 356 rfl)
  | 22, _ => va_eqt (x_nb h0 357 rfl)
  | 23, _ => va_eqt (x_nb h0 358 rfl)
  | 24, _ => va_eqt (x_nb h0 359 rfl)
  | 25, _ => va_eqt (x_nb h0 360 rfl)
  | 26, _ => va_eqt (x_nb h0 361 rfl)
  | 27, _ => va_eqt (x_nb h0 362 rfl)
  | 28, _ => va_eqt (x_nb h0 363 rfl)
  | 29, _ => va_eqt (x_nb h0 364 rfl)
  | 30, _ => va_eqt (x_nb h0 365 rfl)
  | 31, _ => va_eqt (x_nb h0 366 rfl)
  | 32, _ => va_eqt (x_nb h0 367 rfl)
  | 33, _ => va_eqt (x_nb h0 368 rfl)
  | 34, _ => va_eqt (x_nb h0 369 rfl)
  | 35, _ => va_eqt (x_nb h0 370 rfl)
  | 36, _ => va_eqt (x_nb h0 371 rfl)
  | 37, _ => va_eqt (x_nb h0 372 rfl)
  | 38, _ => va_eqt (x_nb h0 373 rfl)
  | 39, _ => va_eqt (x_nb h0 374 rfl)
  | 40, _ => va_eqt (x_nb h0 375 rfl)
  | 41, _ => va_eqt (x_nb h0 376 rfl)
  | 42, _ => va_eqt (x_nb h0 377 rfl)
  | 43, _ => va_eqt (x_nb h0 378 rfl)
  | 44, _ => va_eqt (x_nb h0 379 rfl)
  | 45, _ => va_eqt (x_nb h0 380 rfl)
  | 46, _ => va_eqt (x_nb h0 381 rfl)
  | 47, _ => va_eqt (x_nb h0 382 rfl)
  | 48, _ => va_eqt (x_nb h0 383 rfl)
  | 49, _ => va_eqt (x_nb h0 384 rfl)
  | 50, _ => va_eqt (x_nb h0 385 rfl)
  | 51, _ => va_eqt (x_nb h0 386 rfl)
  | 52, _ => va_eqt (x_nb h0 387 rfl)
  | 53, _ => va_eqt (x_nb h0 388 rfl)
  | 54, _ => va_eqt (x_nb h0 389 rfl)
  | 55, _ => va_eqt (x_nb h0 390 rfl)
  | 56, _ => va_eqt (x_nb h0 391 rfl)
  | 57, _ => va_eqt (x_nb h0 392 rfl)
  | 58, _ => va_eqt (x_nb h0 393 rfl)
  | 59, _ => va_eqt (x_nb h0 394 rfl)
  | 60, _ => va_eqt (x_nb h0 395 rfl)
  | 61, _ => va_eqt (x_nb h0 396 rfl)
  | 62, _ => va_eqt (x_nb h0 397 rfl)
  | 63, _ => va_eqt (x_nb h0 398 rfl)
  | 64, _ => va_eqt (x_nb h0 399 rfl)
  | 65, _ => va_eqt (x_nb h0 400 rfl)
  | 66, _ => va_eqt (x_nb h0 401 rfl)
  | 67, _ => va_eqt (x_nb h0 402 rfl)
  | 68, _ => va_eqt (x_nb h0 403 rfl)
  | 69, _ => va_eqt (x_nb h0 404 rfl)
  | 70, _ => va_eqt (x_nb h0 405 rfl)
  | 71, _ => va_eqt (x_nb h0 406 rfl)
  | 72, _ => va_eqt (x_nb h0 407 rfl)
  | 73, _ => va_eqt (x_nb h0 408 rfl)
  | 74, _ => va_eqt (x_nb h0 409 rfl)
  | 75, _ => va_eqt (x_nb h0 410 rfl)
  | 76, _ => va_eqt (x_nb h0 411 rfl)
  | 77, _ => va_eqt (x_nb h0 412 rfl)
  | 78, _ => va_eqt (x_nb h0 413 rfl)
  | 79, _ => va_eqt (x_nb h0 414 rfl)
  | 80, _ => va_eqt (x_nb h0 415 rfl)
  | 81, _ => va_eqt (x_nb h0 416 rfl)
  | 82, _ => va_eqt (x_nb h0 417 rfl)
  | 83, _ => va_eqt (x_nb h0 418 rfl)
  | 84, _ => va_eqt (x_nb h0 419 rfl)
  | 85, _ => va_eqt (x_nb h0 420 rfl)
  | 86, _ => va_eqt (x_nb h0 421 rfl)
  | 87, _ => va_eqt (x_nb h0 422 rfl)
  | 88, _ => va_eqt (x_nb h0 423 rfl)
  | 89, _ => va_eqt (x_nb h0 424 rfl)
  | 90, _ => va_eqt (x_nb h0 425 rfl)
  | 91, _ => va_eqt (x_nb h0 426 rfl)
  | 92, _ => va_eqt (x_nb h0 427 rfl)
  | 93, _ => va_eqt (x_nb h0 428 rfl)
  | 94, _ => va_eqt (x_nb h0 429 rfl)
  | 95, _ => va_eqt (x_nb h0 430 rfl)
  | 96, _ => va_eqt (x_nb h0 431 rfl)
  | 97, _ => va_eqt (x_nb h0 432 rfl)
  | 98, _ => va_eqt (x_nb h0 433 rfl)
  | 99, _ => va_eqt (x_nb h0 434 rfl)
  | 100, _ => va_eqt (x_nb h0 435 rfl)
  | 101, _ => va_eqt (x_nb h0 436 rfl)
  | 102, _ => va_eqt (x_nb h0 437 rfl)
  | 103, _ => va_eqt (x_nb h0 438 rfl)
  | 104, _ => va_eqt (x_nb h0 439 rfl)
  | 105, _ => va_eqt (x_nb h0 440 rfl)
  | 106, _ => va_eqt (x_nb h0 441 rfl)
  | 107, _ => va_eqt (x_nb h0 442 rfl)
  | 108, _ => va_eqt (x_nb h0 443 rfl)
  | _ + 109, hz => absurd hz (by omega)
theorem x_bS {l : Launch} {s : State} {b : Nat} (h0 : x_B0 l s b) : va_O "java/lang/String" (x_cn0 b s 37) (fun q => s.heap.size ≤ q) s s.heap ∧ va_OF "java/lang/String" "coder" "B" (.int 0) (x_cn0 b s 37) (fun q => s.heap.size ≤ q) s s.heap ∧ va_OF "java/lang/String" "value" "[B" (.ref (x_cn0 b s 38)) (x_cn0 b s 37) (fun q => s.heap.size ≤ q) s s.heap ∧ va_T .byte (x_cn0 b s 38) 109 (fun j => .int (x_rs.getD j 0)) (fun q => s.heap.size ≤ q) s s.heap := by
  have e7 : (Term.string "QuestionReaderModel" 7).eval #[Value.ref b] s none [] s = some (.ref (x_cn0 b s 37)) := x_exr (x_nb h0 331 rfl)
  obtain ⟨t, h1, h2⟩ := va_Tof (args := #[Value.ref b]) (s := s) (tm := .field (.string "QuestionReaderModel" 7) "java/lang/String" "value" "[B") (ty := .byte) (N := 109) (f := fun j => .int (x_rs.getD j 0)) (A := fun q => s.heap.size ≤ q) (by decide) (x_nb h0 333 rfl) (va_eqt (x_nb h0 334 rfl)) (x_bb h0) x_not0
  have e : x_cn0 b s 38 = t := x_evR_ok h1
  rw [e]
  exact ⟨va_Oof (x_nb h0 331 rfl) e7 x_not0, vk_OFof e7 (va_eqt (x_nb h0 332 rfl)) x_not0, vk_OFof e7 h1 x_not0, h2⟩
theorem x_bf {l : Launch} {s : State} {b : Nat} (h0 : x_B0 l s b) : ∃ v : Value, (v = .null ∨ ∃ k, v = .ref k) ∧ ∀ (D : va_G) (cA : Nat → ClassId), va_Z "jdk/internal/util/Preconditions" "SIOOBE_FORMATTER" "Ljava/util/function/BiFunction;" (x_v0 (x_gs l D cA s b) v) (fun q => s.heap.size ≤ q) s s.heap := by
  rcases va_Zqof (args := #[Value.ref b]) (h0.2.1 _ wl_1283) (h0.2.1 _ (x_tb0 w_24)) (x_nb h0 154 rfl) x_not0 with h | ⟨t, h⟩
  · exact ⟨.null, Or.inl rfl, fun _ _ => h⟩
  · refine ⟨.ref (x_N + 45), Or.inr ⟨_, rfl⟩, fun D cA => ?_⟩
    have he : (Term.static "jdk/internal/util/Preconditions" "SIOOBE_FORMATTER" "Ljava/util/function/BiFunction;").eval #[Value.ref b] s none [] s = some (.ref t) := by
      obtain ⟨cf, kf, fi, f, a, cell, z1, z2, z3, z4, z5, z6, z7, -⟩ := h
      simp [Term.eval, State.fieldNamed?, z1, z2, z4, z5, z6, z7]
    show va_Z _ _ _ (.ref (x_ad (x_gs l D cA s b) (x_N + 45))) _ s s.heap
    rw [x_adN]
    have e : x_cn0 b s 45 = t := x_evR_ok he
    show va_Z _ _ _ (.ref (x_cn0 b s 45)) _ s s.heap
    rw [e]; exact h
theorem x_b0 {l : Launch} {s : State} {b : Nat} (h0 : x_B0 l s b) (D : va_G) (cA : Nat → ClassId) : x_0 (x_gs l D cA s b) := by
  refine ⟨⟨x_bk h0, x_bi h0, x_bA h0, x_bS h0, vk_R.of (h0.2.1 _ wl_1059) (x_exr (x_nb h0 331 rfl)), ⟨vk_R.of (h0.2.1 _ wl_843) (x_exr (x_nb h0 188 rfl)), vk_R.of (h0.2.1 _ wl_893) (x_exr (x_nb h0 218 rfl)), vk_R.of (h0.2.1 _ wl_914) (x_exr (x_nb h0 251 rfl)), vk_R.of (h0.2.1 _ wl_957) (x_exr (x_nb h0 286 rfl)), vk_R.of (h0.2.1 _ wl_1035) (x_exr (x_nb h0 307 rfl))⟩, va_Zof (h0.2.1 _ wl_1267) (h0.2.1 _ (x_tb0 w_22)) (va_eqt (x_nb h0 153 rfl)) x_not0, ?_⟩, h0.1, h0.2.1, h0.2.2.1, h0.2.2.2⟩
  obtain ⟨v, h1, h2⟩ := x_bf h0
  exact ⟨v, h1, h2 D cA⟩
theorem x_bc {l : Launch} {s : State} {b : Nat} (h0 : x_B0 l s b) : ∀ c : Nat, ∃ z : ClassId × (Nat → Nat), ∀ q, vwCl[c]? = some q → u_Kn s q.1 q.2.1 q.2.2 z.1 z.2 := fun c => match c with
  | 0 => by
    obtain ⟨a, f, h⟩ := u_known (C := R_QR) (T := F_QR) (N := 5) h0.2.1 (fun w hw => x_tb0 (wu_QR w hw)) (h0.2.1 _ (x_tb0 w_27))
    exact ⟨(a, f), fun q hq => by cases hq; exact h⟩
  | 1 => by
    obtain ⟨a, f, h⟩ := u_known (C := R_TX) (T := F_TX) (N := 2) h0.2.1 (fun w hw => x_tb0 (wu_TX w hw)) (h0.2.1 _ (x_tb0 w_35))
    exact ⟨(a, f), fun q hq => by cases hq; exact h⟩
  | 2 => by
    obtain ⟨a, f, h⟩ := u_known (C := R_LX) (T := F_LX) (N := 9) h0.2.1 (fun w hw => x_tb0 (wu_LX w hw)) (h0.2.1 _ (x_tb0 w_54))
    exact ⟨(a, f), fun q hq => by cases hq; exact h⟩
  | 3 => by
    obtain ⟨a, f, h⟩ := u_known (C := R_CT) (T := F_CT) (N := 5) h0.2.1 (fun w hw => x_tb0 (wu_CT w hw)) (h0.2.1 _ (x_tb0 w_102))
    exact ⟨(a, f), fun q hq => by cases hq; exact h⟩
  | 4 => by
    obtain ⟨a, f, h⟩ := u_known (C := R_NM) (T := F_NM) (N := 2) h0.2.1 (fun w hw => x_tb0 (wu_NM w hw)) (h0.2.1 _ (x_tb0 w_108))
    exact ⟨(a, f), fun q hq => by cases hq; exact h⟩
  | 5 => by
    obtain ⟨a, f, h⟩ := u_known (C := R_DM) (T := F_DM) (N := 7) h0.2.1 (fun w hw => x_tb0 (wu_DM w hw)) (h0.2.1 _ (x_tb0 w_123))
    exact ⟨(a, f), fun q hq => by cases hq; exact h⟩
  | 6 => by
    obtain ⟨a, f, h⟩ := u_known (C := R_CG) (T := F_CG) (N := 3) h0.2.1 (fun w hw => x_tb0 (wu_CG w hw)) (h0.2.1 _ (x_tb0 w_193))
    exact ⟨(a, f), fun q hq => by cases hq; exact h⟩
  | 7 => by
    obtain ⟨a, f, h⟩ := u_known (C := R_QG) (T := F_QG) (N := 5) h0.2.1 (fun w hw => x_tb0 (wu_QG w hw)) (h0.2.1 _ (x_tb0 w_209))
    exact ⟨(a, f), fun q hq => by cases hq; exact h⟩
  | 8 => by
    obtain ⟨a, f, h⟩ := u_known (C := R_QU) (T := F_QU) (N := 9) h0.2.1 (fun w hw => x_tb0 (wu_QU w hw)) (h0.2.1 _ (x_tb0 w_215))
    exact ⟨(a, f), fun q hq => by cases hq; exact h⟩
  | 9 => by
    obtain ⟨a, f, h⟩ := u_known (C := R_CN) (T := F_CN) (N := 12) h0.2.1 (fun w hw => x_tb0 (wu_CN w hw)) (h0.2.1 _ (x_tb0 w_221))
    exact ⟨(a, f), fun q hq => by cases hq; exact h⟩
  | 10 => by
    obtain ⟨a, f, h⟩ := u_known (C := R_CP) (T := F_CP) (N := 6) h0.2.1 (fun w hw => x_tb0 (wu_CP w hw)) (h0.2.1 _ (x_tb0 w_228))
    exact ⟨(a, f), fun q hq => by cases hq; exact h⟩
  | 11 => by
    obtain ⟨a, f, h⟩ := u_known (C := R_MD) (T := F_MD) (N := 27) h0.2.1 (fun w hw => x_tb0 (wu_MD w hw)) (h0.2.1 _ (x_tb0 w_1054))
    exact ⟨(a, f), fun q hq => by cases hq; exact h⟩
  | 12 => by
    obtain ⟨a, f, h⟩ := u_known (C := R_MQ) (T := F_MQ) (N := 19) h0.2.1 (fun w hw => x_tb0 (wu_MQ w hw)) (h0.2.1 _ (x_tb0 w_1062))
    exact ⟨(a, f), fun q hq => by cases hq; exact h⟩
  | _ + 13 => ⟨(0, fun _ => 0), fun q hq => nomatch hq⟩
theorem x_ap {s : State} {b : Nat} {ty : FieldType} (hno : ∀ C, ty ≠ .object C) (h : (Cond.arrayClass ty).before #[Value.ref b] s = true) : ∃ cA : ClassId, ArrOfT s cA ty ∧ va_RA s cA ty := by
  obtain ⟨c, k, comp, h1, h2, h3⟩ := Cond.arrayClass_spec h
  refine ⟨c, fun n z => ⟨fun k h => (by cases h), k, h2, comp, h3⟩, ?_⟩
  cases ty <;> first | exact h1 | exact absurd rfl (hno _)
theorem x_aq {s : State} {b : Nat} {C : String} (h : (Cond.arrayOver (.object C)).before #[Value.ref b] s = true) : ∃ cA : ClassId, ArrOfT s cA (.object C) ∧ va_RA s cA (.object C) := by
  obtain ⟨comp, c, k, h1, h2, h3, h4, h5⟩ := Cond.arrayOver_spec h
  exact ⟨c, fun n z => ⟨fun k h => (by cases h), k, h3, comp, h4⟩, k, comp, h3, h4, h1, h5⟩
theorem x_aa {s : State} {b : Nat} {t : FieldType} (h : (Cond.arrayOver (.array t)).before #[Value.ref b] s = true) : ∃ cA : ClassId, ArrOfT s cA (.array t) ∧ va_RA s cA (.array t) := by
  obtain ⟨comp, c, k, h1, h2, h3, h4, h5⟩ := arrayOverA_spec h
  exact ⟨c, fun n z => ⟨fun k h => (by cases h), k, h3, comp, h4⟩, h5⟩
theorem x_bt {l : Launch} {s : State} {b : Nat} (h0 : x_B0 l s b) : ∀ t : Nat, ∃ cA : ClassId, ∀ ty, x_tl[t]? = some ty → ArrOfT s cA ty ∧ va_RA s cA ty := fun t => match t with
  | 0 => by obtain ⟨c, h⟩ := x_ap (by intro C z; cases z) (h0.2.1 _ (x_tb0 w_120)); exact ⟨c, fun ty hq => by cases hq; exact h⟩
  | 1 => by obtain ⟨c, h⟩ := x_ap (by intro C z; cases z) (h0.2.1 _ (x_tb0 w_52)); exact ⟨c, fun ty hq => by cases hq; exact h⟩
  | 2 => by obtain ⟨c, h⟩ := x_ap (by intro C z; cases z) (h0.2.1 _ (x_tb0 w_254)); exact ⟨c, fun ty hq => by cases hq; exact h⟩
  | 3 => by obtain ⟨c, h⟩ := x_ap (by intro C z; cases z) (h0.2.1 _ (x_tb0 w_1515)); exact ⟨c, fun ty hq => by cases hq; exact h⟩
  | 4 => by obtain ⟨c, h⟩ := x_aq (h0.2.1 _ wr_ao4); exact ⟨c, fun ty hq => by cases hq; exact h⟩
  | 5 => by obtain ⟨c, h⟩ := x_aq (h0.2.1 _ wr_ao5); exact ⟨c, fun ty hq => by cases hq; exact h⟩
  | 6 => by obtain ⟨c, h⟩ := x_aa (h0.2.1 _ wr_ao6); exact ⟨c, fun ty hq => by cases hq; exact h⟩
  | _ + 7 => ⟨0, fun ty hq => nomatch hq⟩
theorem x_bK {l : Launch} {s : State} {b : Nat} (h0 : x_B0 l s b) : ∃ (D : va_G) (cA : Nat → ClassId), va_K D vwCl (x_ty (x_gs l D cA s b)) s := by
  obtain ⟨f, hf⟩ := Classical.axiomOfChoice (x_bc h0)
  obtain ⟨g, hg⟩ := Classical.axiomOfChoice (x_bt h0)
  refine ⟨(fun c => (f c).1, fun c => (f c).2), g, fun c q hq => hf c q hq, fun k q hq => ?_⟩
  unfold x_ty at hq
  rw [List.getElem?_mapIdx] at hq
  cases hx : x_tl[k]? with
  | none => rw [hx] at hq; exact nomatch hq
  | some ty =>
    rw [hx] at hq
    cases hq
    exact hg k ty hx
