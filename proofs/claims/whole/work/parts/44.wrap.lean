/-! the law's wrappers -/
def x_w1 (b : Bool) (r : (Int32 ⊕ Bool) × x_m) : Option (Int32 × x_m) := match r with
  | (.inl v, m) => some (0, x_wL m 424 0 v.toInt64)
  | (.inr c, m) => if c = b then some (1, m) else none
def x_w2 (r : (Int32 ⊕ Bool) × x_m) : Option (Int32 × x_m) := match r with
  | (.inl v, m) => some (0, x_wL m 424 0 v.toInt64)
  | (.inr true, m) => some (1, m)
  | (.inr false, m) => some (2, m)
def x_wh (r : (Int32 ⊕ Bool) × x_m) : Option (Int32 × x_m) := match r with
  | (.inl v, m) => some (0, x_wL m 424 0 (if v = 0 then 0 else 1))
  | (.inr c, m) => if c = false then some (1, m) else none
theorem x_eV {G : x_G} {M M2 : x_M} {rm : Room} {Qf : List Frame → Array Value → State → State → Prop} {m : x_m} {cells slots : Nat} {lv : List (Nat × Value)} {st stk : List Value} {pc index ci d2 c2 b na : Nat} {C : String} {T : u_T} {N : Nat} {tp : List (Nat ⊕ Bool)} {As : List Value} {r : (Int32 ⊕ Bool) × x_m} (hd : decode M.2.1 pc = .ok (.invokevirtual index, 3)) (hlk : Cond.methodLink M.1.cls index M2.1 ∈ x_tsl) (hk : x_kV M2 C na) (hR : x_R G M2 (x_rx d2 c2) false (.ref b :: As) x_np (x_hp m) (x_pt r)) (hcl : vwCl[ci]? = some (C, T, N)) (hs : x_shape b = .inl (ci, tp)) (hb : b < x_np) (hna : As.length = na)
    (hrm : x_rm rm (x_rx d2 c2) M2) (hal : (lg_sl (.ref b :: As)).length ≤ M2.2.2.1) (hw : (st.map fun v => v.category).sum ≤ 8) (hc1 : cells + c2 ≤ rm.cells) (hs1 : slots + 6 * c2 ≤ rm.slots) (hst : stk = As.reverse ++ .ref b :: st)
    (k0 : ∀ v, r.1 = .inl v → x_W G M rm Qf false x_np (x_hp r.2) (cells + c2) (slots + 6 * c2) lv (.int v :: st) (pc + 3))
    (k1 : ∀ c, r.1 = .inr c → x_WT G M rm Qf false x_np (x_hp r.2) (cells + c2) (slots + 6 * c2) lv (x_ex c) pc) : x_W G M rm Qf false x_np (x_hp m) cells slots lv stk pc := by
  obtain ⟨e1, e2, e3, e4, e5⟩ := hk
  subst hna
  obtain ⟨r1, r2⟩ := r
  refine x_callV hd hR e1 hlk e2 e3 e4 e5 hb (x_hp_o hs) hcl hrm hc1 hs1 hal hw hst ?_ ?_
  · rintro v n' h' ⟨h1, rfl, rfl⟩
    cases r1 with
    | inl w => cases h1; exact k0 w rfl
    | inr c => cases h1
  · rintro Y n' h' ⟨h1, rfl, rfl⟩
    cases r1 with
    | inl w => cases h1
    | inr c => cases h1; exact k1 c rfl
def M_LW_feed : x_M := (⟨"QuestionReaderLaw", "feed", "(LQuestionReader;IIIII[J)I"⟩, method_3_code, 8, some (.int), [(0, 16, 19, 13)])
theorem d_LW_feed_0 : decode M_LW_feed.2.1 0 = .ok (.aload 6, 2) := by decide +kernel
theorem d_LW_feed_2 : decode M_LW_feed.2.1 2 = .ok (.iconst 0, 1) := by decide +kernel
theorem d_LW_feed_3 : decode M_LW_feed.2.1 3 = .ok (.aload_n 0, 1) := by decide +kernel
theorem d_LW_feed_4 : decode M_LW_feed.2.1 4 = .ok (.iload_n 1, 1) := by decide +kernel
theorem d_LW_feed_5 : decode M_LW_feed.2.1 5 = .ok (.iload_n 2, 1) := by decide +kernel
theorem d_LW_feed_6 : decode M_LW_feed.2.1 6 = .ok (.iload_n 3, 1) := by decide +kernel
theorem d_LW_feed_7 : decode M_LW_feed.2.1 7 = .ok (.iload 4, 2) := by decide +kernel
theorem d_LW_feed_9 : decode M_LW_feed.2.1 9 = .ok (.iload 5, 2) := by decide +kernel
theorem d_LW_feed_11 : decode M_LW_feed.2.1 11 = .ok (.invokevirtual 7, 3) := by decide +kernel
theorem d_LW_feed_14 : decode M_LW_feed.2.1 14 = .ok (.i2l, 1) := by decide +kernel
theorem d_LW_feed_15 : decode M_LW_feed.2.1 15 = .ok (.lastore, 1) := by decide +kernel
theorem d_LW_feed_16 : decode M_LW_feed.2.1 16 = .ok (.goto 7, 3) := by decide +kernel
theorem d_LW_feed_19 : decode M_LW_feed.2.1 19 = .ok (.astore 7, 2) := by decide +kernel
theorem d_LW_feed_21 : decode M_LW_feed.2.1 21 = .ok (.iconst 1, 1) := by decide +kernel
theorem d_LW_feed_22 : decode M_LW_feed.2.1 22 = .ok (.ireturn, 1) := by decide +kernel
theorem d_LW_feed_23 : decode M_LW_feed.2.1 23 = .ok (.iconst 0, 1) := by decide +kernel
theorem d_LW_feed_24 : decode M_LW_feed.2.1 24 = .ok (.ireturn, 1) := by decide +kernel
theorem k_LW_feed : x_kS M_LW_feed 7 := ⟨⟨by decide, Or.inr w_796⟩, w_795, w_0, ⟨by decide, by decide⟩, by decide +kernel⟩
def M_LW_trim : x_M := (⟨"QuestionReaderLaw", "trim", "(LQuestionReader;I[J)I"⟩, method_4_code, 4, some (.int), [(0, 9, 12, 19)])
theorem d_LW_trim_0 : decode M_LW_trim.2.1 0 = .ok (.aload_n 2, 1) := by decide +kernel
theorem d_LW_trim_1 : decode M_LW_trim.2.1 1 = .ok (.iconst 0, 1) := by decide +kernel
theorem d_LW_trim_2 : decode M_LW_trim.2.1 2 = .ok (.aload_n 0, 1) := by decide +kernel
theorem d_LW_trim_3 : decode M_LW_trim.2.1 3 = .ok (.iload_n 1, 1) := by decide +kernel
theorem d_LW_trim_4 : decode M_LW_trim.2.1 4 = .ok (.invokevirtual 15, 3) := by decide +kernel
theorem d_LW_trim_7 : decode M_LW_trim.2.1 7 = .ok (.i2l, 1) := by decide +kernel
theorem d_LW_trim_8 : decode M_LW_trim.2.1 8 = .ok (.lastore, 1) := by decide +kernel
theorem d_LW_trim_9 : decode M_LW_trim.2.1 9 = .ok (.goto 6, 3) := by decide +kernel
theorem d_LW_trim_12 : decode M_LW_trim.2.1 12 = .ok (.astore_n 3, 1) := by decide +kernel
theorem d_LW_trim_13 : decode M_LW_trim.2.1 13 = .ok (.iconst 1, 1) := by decide +kernel
theorem d_LW_trim_14 : decode M_LW_trim.2.1 14 = .ok (.ireturn, 1) := by decide +kernel
theorem d_LW_trim_15 : decode M_LW_trim.2.1 15 = .ok (.iconst 0, 1) := by decide +kernel
theorem d_LW_trim_16 : decode M_LW_trim.2.1 16 = .ok (.ireturn, 1) := by decide +kernel
theorem k_LW_trim : x_kS M_LW_trim 3 := ⟨⟨by decide, Or.inr w_875⟩, w_874, w_0, ⟨by decide, by decide⟩, by decide +kernel⟩
def M_LW_fault : x_M := (⟨"QuestionReaderLaw", "fault", "(LQuestionReader;I[J)I"⟩, method_5_code, 4, some (.int), [(0, 9, 12, 19)])
theorem d_LW_fault_0 : decode M_LW_fault.2.1 0 = .ok (.aload_n 2, 1) := by decide +kernel
theorem d_LW_fault_1 : decode M_LW_fault.2.1 1 = .ok (.iconst 0, 1) := by decide +kernel
theorem d_LW_fault_2 : decode M_LW_fault.2.1 2 = .ok (.aload_n 0, 1) := by decide +kernel
theorem d_LW_fault_3 : decode M_LW_fault.2.1 3 = .ok (.iload_n 1, 1) := by decide +kernel
theorem d_LW_fault_4 : decode M_LW_fault.2.1 4 = .ok (.invokevirtual 21, 3) := by decide +kernel
theorem d_LW_fault_7 : decode M_LW_fault.2.1 7 = .ok (.i2l, 1) := by decide +kernel
theorem d_LW_fault_8 : decode M_LW_fault.2.1 8 = .ok (.lastore, 1) := by decide +kernel
theorem d_LW_fault_9 : decode M_LW_fault.2.1 9 = .ok (.goto 6, 3) := by decide +kernel
theorem d_LW_fault_12 : decode M_LW_fault.2.1 12 = .ok (.astore_n 3, 1) := by decide +kernel
theorem d_LW_fault_13 : decode M_LW_fault.2.1 13 = .ok (.iconst 1, 1) := by decide +kernel
theorem d_LW_fault_14 : decode M_LW_fault.2.1 14 = .ok (.ireturn, 1) := by decide +kernel
theorem d_LW_fault_15 : decode M_LW_fault.2.1 15 = .ok (.iconst 0, 1) := by decide +kernel
theorem d_LW_fault_16 : decode M_LW_fault.2.1 16 = .ok (.ireturn, 1) := by decide +kernel
theorem k_LW_fault : x_kS M_LW_fault 3 := ⟨⟨by decide, Or.inr w_902⟩, w_901, w_0, ⟨by decide, by decide⟩, by decide +kernel⟩
def M_LW_count : x_M := (⟨"QuestionReaderLaw", "count", "(LQuestionReader;I[J)I"⟩, method_6_code, 4, some (.int), [(0, 9, 12, 19)])
theorem d_LW_count_0 : decode M_LW_count.2.1 0 = .ok (.aload_n 2, 1) := by decide +kernel
theorem d_LW_count_1 : decode M_LW_count.2.1 1 = .ok (.iconst 0, 1) := by decide +kernel
theorem d_LW_count_2 : decode M_LW_count.2.1 2 = .ok (.aload_n 0, 1) := by decide +kernel
theorem d_LW_count_3 : decode M_LW_count.2.1 3 = .ok (.iload_n 1, 1) := by decide +kernel
theorem d_LW_count_4 : decode M_LW_count.2.1 4 = .ok (.invokevirtual 24, 3) := by decide +kernel
theorem d_LW_count_7 : decode M_LW_count.2.1 7 = .ok (.i2l, 1) := by decide +kernel
theorem d_LW_count_8 : decode M_LW_count.2.1 8 = .ok (.lastore, 1) := by decide +kernel
theorem d_LW_count_9 : decode M_LW_count.2.1 9 = .ok (.goto 6, 3) := by decide +kernel
theorem d_LW_count_12 : decode M_LW_count.2.1 12 = .ok (.astore_n 3, 1) := by decide +kernel
theorem d_LW_count_13 : decode M_LW_count.2.1 13 = .ok (.iconst 1, 1) := by decide +kernel
theorem d_LW_count_14 : decode M_LW_count.2.1 14 = .ok (.ireturn, 1) := by decide +kernel
theorem d_LW_count_15 : decode M_LW_count.2.1 15 = .ok (.iconst 0, 1) := by decide +kernel
theorem d_LW_count_16 : decode M_LW_count.2.1 16 = .ok (.ireturn, 1) := by decide +kernel
theorem k_LW_count : x_kS M_LW_count 3 := ⟨⟨by decide, Or.inr w_909⟩, w_908, w_0, ⟨by decide, by decide⟩, by decide +kernel⟩
def M_LW_dimension : x_M := (⟨"QuestionReaderLaw", "dimension", "(LQuestionReader;II[J)I"⟩, method_7_code, 5, some (.int), [(0, 10, 13, 19)])
theorem d_LW_dimension_0 : decode M_LW_dimension.2.1 0 = .ok (.aload_n 3, 1) := by decide +kernel
theorem d_LW_dimension_1 : decode M_LW_dimension.2.1 1 = .ok (.iconst 0, 1) := by decide +kernel
theorem d_LW_dimension_2 : decode M_LW_dimension.2.1 2 = .ok (.aload_n 0, 1) := by decide +kernel
theorem d_LW_dimension_3 : decode M_LW_dimension.2.1 3 = .ok (.iload_n 1, 1) := by decide +kernel
theorem d_LW_dimension_4 : decode M_LW_dimension.2.1 4 = .ok (.iload_n 2, 1) := by decide +kernel
theorem d_LW_dimension_5 : decode M_LW_dimension.2.1 5 = .ok (.invokevirtual 27, 3) := by decide +kernel
theorem d_LW_dimension_8 : decode M_LW_dimension.2.1 8 = .ok (.i2l, 1) := by decide +kernel
theorem d_LW_dimension_9 : decode M_LW_dimension.2.1 9 = .ok (.lastore, 1) := by decide +kernel
theorem d_LW_dimension_10 : decode M_LW_dimension.2.1 10 = .ok (.goto 7, 3) := by decide +kernel
theorem d_LW_dimension_13 : decode M_LW_dimension.2.1 13 = .ok (.astore 4, 2) := by decide +kernel
theorem d_LW_dimension_15 : decode M_LW_dimension.2.1 15 = .ok (.iconst 1, 1) := by decide +kernel
theorem d_LW_dimension_16 : decode M_LW_dimension.2.1 16 = .ok (.ireturn, 1) := by decide +kernel
theorem d_LW_dimension_17 : decode M_LW_dimension.2.1 17 = .ok (.iconst 0, 1) := by decide +kernel
theorem d_LW_dimension_18 : decode M_LW_dimension.2.1 18 = .ok (.ireturn, 1) := by decide +kernel
theorem k_LW_dimension : x_kS M_LW_dimension 4 := ⟨⟨by decide, Or.inr w_917⟩, w_916, w_0, ⟨by decide, by decide⟩, by decide +kernel⟩
def M_LW_value : x_M := (⟨"QuestionReaderLaw", "value", "(LQuestionReader;III[J)I"⟩, method_8_code, 6, some (.int), [(0, 12, 15, 19)])
theorem d_LW_value_0 : decode M_LW_value.2.1 0 = .ok (.aload 4, 2) := by decide +kernel
theorem d_LW_value_2 : decode M_LW_value.2.1 2 = .ok (.iconst 0, 1) := by decide +kernel
theorem d_LW_value_3 : decode M_LW_value.2.1 3 = .ok (.aload_n 0, 1) := by decide +kernel
theorem d_LW_value_4 : decode M_LW_value.2.1 4 = .ok (.iload_n 1, 1) := by decide +kernel
theorem d_LW_value_5 : decode M_LW_value.2.1 5 = .ok (.iload_n 2, 1) := by decide +kernel
theorem d_LW_value_6 : decode M_LW_value.2.1 6 = .ok (.iload_n 3, 1) := by decide +kernel
theorem d_LW_value_7 : decode M_LW_value.2.1 7 = .ok (.invokevirtual 31, 3) := by decide +kernel
theorem d_LW_value_10 : decode M_LW_value.2.1 10 = .ok (.i2l, 1) := by decide +kernel
theorem d_LW_value_11 : decode M_LW_value.2.1 11 = .ok (.lastore, 1) := by decide +kernel
theorem d_LW_value_12 : decode M_LW_value.2.1 12 = .ok (.goto 7, 3) := by decide +kernel
theorem d_LW_value_15 : decode M_LW_value.2.1 15 = .ok (.astore 5, 2) := by decide +kernel
theorem d_LW_value_17 : decode M_LW_value.2.1 17 = .ok (.iconst 1, 1) := by decide +kernel
theorem d_LW_value_18 : decode M_LW_value.2.1 18 = .ok (.ireturn, 1) := by decide +kernel
theorem d_LW_value_19 : decode M_LW_value.2.1 19 = .ok (.iconst 0, 1) := by decide +kernel
theorem d_LW_value_20 : decode M_LW_value.2.1 20 = .ok (.ireturn, 1) := by decide +kernel
theorem k_LW_value : x_kS M_LW_value 5 := ⟨⟨by decide, Or.inr w_928⟩, w_927, w_0, ⟨by decide, by decide⟩, by decide +kernel⟩
def M_LW_rank : x_M := (⟨"QuestionReaderLaw", "rank", "(LQuestionReader;III[J)I"⟩, method_9_code, 6, some (.int), [(0, 12, 15, 19), (0, 12, 19, 13)])
theorem d_LW_rank_0 : decode M_LW_rank.2.1 0 = .ok (.aload 4, 2) := by decide +kernel
theorem d_LW_rank_2 : decode M_LW_rank.2.1 2 = .ok (.iconst 0, 1) := by decide +kernel
theorem d_LW_rank_3 : decode M_LW_rank.2.1 3 = .ok (.aload_n 0, 1) := by decide +kernel
theorem d_LW_rank_4 : decode M_LW_rank.2.1 4 = .ok (.iload_n 1, 1) := by decide +kernel
theorem d_LW_rank_5 : decode M_LW_rank.2.1 5 = .ok (.iload_n 2, 1) := by decide +kernel
theorem d_LW_rank_6 : decode M_LW_rank.2.1 6 = .ok (.iload_n 3, 1) := by decide +kernel
theorem d_LW_rank_7 : decode M_LW_rank.2.1 7 = .ok (.invokevirtual 35, 3) := by decide +kernel
theorem d_LW_rank_10 : decode M_LW_rank.2.1 10 = .ok (.i2l, 1) := by decide +kernel
theorem d_LW_rank_11 : decode M_LW_rank.2.1 11 = .ok (.lastore, 1) := by decide +kernel
theorem d_LW_rank_12 : decode M_LW_rank.2.1 12 = .ok (.goto 11, 3) := by decide +kernel
theorem d_LW_rank_15 : decode M_LW_rank.2.1 15 = .ok (.astore 5, 2) := by decide +kernel
theorem d_LW_rank_17 : decode M_LW_rank.2.1 17 = .ok (.iconst 1, 1) := by decide +kernel
theorem d_LW_rank_18 : decode M_LW_rank.2.1 18 = .ok (.ireturn, 1) := by decide +kernel
theorem d_LW_rank_19 : decode M_LW_rank.2.1 19 = .ok (.astore 5, 2) := by decide +kernel
theorem d_LW_rank_21 : decode M_LW_rank.2.1 21 = .ok (.iconst 2, 1) := by decide +kernel
theorem d_LW_rank_22 : decode M_LW_rank.2.1 22 = .ok (.ireturn, 1) := by decide +kernel
theorem d_LW_rank_23 : decode M_LW_rank.2.1 23 = .ok (.iconst 0, 1) := by decide +kernel
theorem d_LW_rank_24 : decode M_LW_rank.2.1 24 = .ok (.ireturn, 1) := by decide +kernel
theorem k_LW_rank : x_kS M_LW_rank 5 := ⟨⟨by decide, Or.inr w_948⟩, w_947, w_0, ⟨by decide, by decide⟩, by decide +kernel⟩
def M_LW_find : x_M := (⟨"QuestionReaderLaw", "find", "(LQuestionReader;II[J)I"⟩, method_10_code, 5, some (.int), [(0, 10, 13, 19), (0, 10, 17, 13)])
theorem d_LW_find_0 : decode M_LW_find.2.1 0 = .ok (.aload_n 3, 1) := by decide +kernel
theorem d_LW_find_1 : decode M_LW_find.2.1 1 = .ok (.iconst 0, 1) := by decide +kernel
theorem d_LW_find_2 : decode M_LW_find.2.1 2 = .ok (.aload_n 0, 1) := by decide +kernel
theorem d_LW_find_3 : decode M_LW_find.2.1 3 = .ok (.iload_n 1, 1) := by decide +kernel
theorem d_LW_find_4 : decode M_LW_find.2.1 4 = .ok (.iload_n 2, 1) := by decide +kernel
theorem d_LW_find_5 : decode M_LW_find.2.1 5 = .ok (.invokevirtual 38, 3) := by decide +kernel
theorem d_LW_find_8 : decode M_LW_find.2.1 8 = .ok (.i2l, 1) := by decide +kernel
theorem d_LW_find_9 : decode M_LW_find.2.1 9 = .ok (.lastore, 1) := by decide +kernel
theorem d_LW_find_10 : decode M_LW_find.2.1 10 = .ok (.goto 11, 3) := by decide +kernel
theorem d_LW_find_13 : decode M_LW_find.2.1 13 = .ok (.astore 4, 2) := by decide +kernel
theorem d_LW_find_15 : decode M_LW_find.2.1 15 = .ok (.iconst 1, 1) := by decide +kernel
theorem d_LW_find_16 : decode M_LW_find.2.1 16 = .ok (.ireturn, 1) := by decide +kernel
theorem d_LW_find_17 : decode M_LW_find.2.1 17 = .ok (.astore 4, 2) := by decide +kernel
theorem d_LW_find_19 : decode M_LW_find.2.1 19 = .ok (.iconst 2, 1) := by decide +kernel
theorem d_LW_find_20 : decode M_LW_find.2.1 20 = .ok (.ireturn, 1) := by decide +kernel
theorem d_LW_find_21 : decode M_LW_find.2.1 21 = .ok (.iconst 0, 1) := by decide +kernel
theorem d_LW_find_22 : decode M_LW_find.2.1 22 = .ok (.ireturn, 1) := by decide +kernel
theorem k_LW_find : x_kS M_LW_find 4 := ⟨⟨by decide, Or.inr w_965⟩, w_964, w_0, ⟨by decide, by decide⟩, by decide +kernel⟩
def M_LW_letter : x_M := (⟨"QuestionReaderLaw", "letter", "(LQuestionReader;II[J)I"⟩, method_11_code, 5, some (.int), [(0, 10, 13, 19)])
theorem d_LW_letter_0 : decode M_LW_letter.2.1 0 = .ok (.aload_n 3, 1) := by decide +kernel
theorem d_LW_letter_1 : decode M_LW_letter.2.1 1 = .ok (.iconst 0, 1) := by decide +kernel
theorem d_LW_letter_2 : decode M_LW_letter.2.1 2 = .ok (.aload_n 0, 1) := by decide +kernel
theorem d_LW_letter_3 : decode M_LW_letter.2.1 3 = .ok (.iload_n 1, 1) := by decide +kernel
theorem d_LW_letter_4 : decode M_LW_letter.2.1 4 = .ok (.iload_n 2, 1) := by decide +kernel
theorem d_LW_letter_5 : decode M_LW_letter.2.1 5 = .ok (.invokevirtual 41, 3) := by decide +kernel
theorem d_LW_letter_8 : decode M_LW_letter.2.1 8 = .ok (.i2l, 1) := by decide +kernel
theorem d_LW_letter_9 : decode M_LW_letter.2.1 9 = .ok (.lastore, 1) := by decide +kernel
theorem d_LW_letter_10 : decode M_LW_letter.2.1 10 = .ok (.goto 7, 3) := by decide +kernel
theorem d_LW_letter_13 : decode M_LW_letter.2.1 13 = .ok (.astore 4, 2) := by decide +kernel
theorem d_LW_letter_15 : decode M_LW_letter.2.1 15 = .ok (.iconst 1, 1) := by decide +kernel
theorem d_LW_letter_16 : decode M_LW_letter.2.1 16 = .ok (.ireturn, 1) := by decide +kernel
theorem d_LW_letter_17 : decode M_LW_letter.2.1 17 = .ok (.iconst 0, 1) := by decide +kernel
theorem d_LW_letter_18 : decode M_LW_letter.2.1 18 = .ok (.ireturn, 1) := by decide +kernel
theorem k_LW_letter : x_kS M_LW_letter 4 := ⟨⟨by decide, Or.inr w_976⟩, w_975, w_0, ⟨by decide, by decide⟩, by decide +kernel⟩
def M_LW_item : x_M := (⟨"QuestionReaderLaw", "item", "(LQuestionReader;II[J)I"⟩, method_12_code, 5, some (.int), [(0, 10, 13, 19)])
theorem d_LW_item_0 : decode M_LW_item.2.1 0 = .ok (.aload_n 3, 1) := by decide +kernel
theorem d_LW_item_1 : decode M_LW_item.2.1 1 = .ok (.iconst 0, 1) := by decide +kernel
theorem d_LW_item_2 : decode M_LW_item.2.1 2 = .ok (.aload_n 0, 1) := by decide +kernel
theorem d_LW_item_3 : decode M_LW_item.2.1 3 = .ok (.iload_n 1, 1) := by decide +kernel
theorem d_LW_item_4 : decode M_LW_item.2.1 4 = .ok (.iload_n 2, 1) := by decide +kernel
theorem d_LW_item_5 : decode M_LW_item.2.1 5 = .ok (.invokevirtual 44, 3) := by decide +kernel
theorem d_LW_item_8 : decode M_LW_item.2.1 8 = .ok (.i2l, 1) := by decide +kernel
theorem d_LW_item_9 : decode M_LW_item.2.1 9 = .ok (.lastore, 1) := by decide +kernel
theorem d_LW_item_10 : decode M_LW_item.2.1 10 = .ok (.goto 7, 3) := by decide +kernel
theorem d_LW_item_13 : decode M_LW_item.2.1 13 = .ok (.astore 4, 2) := by decide +kernel
theorem d_LW_item_15 : decode M_LW_item.2.1 15 = .ok (.iconst 1, 1) := by decide +kernel
theorem d_LW_item_16 : decode M_LW_item.2.1 16 = .ok (.ireturn, 1) := by decide +kernel
theorem d_LW_item_17 : decode M_LW_item.2.1 17 = .ok (.iconst 0, 1) := by decide +kernel
theorem d_LW_item_18 : decode M_LW_item.2.1 18 = .ok (.ireturn, 1) := by decide +kernel
theorem k_LW_item : x_kS M_LW_item 4 := ⟨⟨by decide, Or.inr w_998⟩, w_997, w_0, ⟨by decide, by decide⟩, by decide +kernel⟩
def M_LW_group : x_M := (⟨"QuestionReaderLaw", "group", "(LQuestionReader;I[J)I"⟩, method_13_code, 4, some (.int), [(0, 9, 12, 19)])
theorem d_LW_group_0 : decode M_LW_group.2.1 0 = .ok (.aload_n 2, 1) := by decide +kernel
theorem d_LW_group_1 : decode M_LW_group.2.1 1 = .ok (.iconst 0, 1) := by decide +kernel
theorem d_LW_group_2 : decode M_LW_group.2.1 2 = .ok (.aload_n 0, 1) := by decide +kernel
theorem d_LW_group_3 : decode M_LW_group.2.1 3 = .ok (.iload_n 1, 1) := by decide +kernel
theorem d_LW_group_4 : decode M_LW_group.2.1 4 = .ok (.invokevirtual 47, 3) := by decide +kernel
theorem d_LW_group_7 : decode M_LW_group.2.1 7 = .ok (.i2l, 1) := by decide +kernel
theorem d_LW_group_8 : decode M_LW_group.2.1 8 = .ok (.lastore, 1) := by decide +kernel
theorem d_LW_group_9 : decode M_LW_group.2.1 9 = .ok (.goto 6, 3) := by decide +kernel
theorem d_LW_group_12 : decode M_LW_group.2.1 12 = .ok (.astore_n 3, 1) := by decide +kernel
theorem d_LW_group_13 : decode M_LW_group.2.1 13 = .ok (.iconst 1, 1) := by decide +kernel
theorem d_LW_group_14 : decode M_LW_group.2.1 14 = .ok (.ireturn, 1) := by decide +kernel
theorem d_LW_group_15 : decode M_LW_group.2.1 15 = .ok (.iconst 0, 1) := by decide +kernel
theorem d_LW_group_16 : decode M_LW_group.2.1 16 = .ok (.ireturn, 1) := by decide +kernel
theorem k_LW_group : x_kS M_LW_group 3 := ⟨⟨by decide, Or.inr w_1005⟩, w_1004, w_0, ⟨by decide, by decide⟩, by decide +kernel⟩
def M_LW_set : x_M := (⟨"QuestionReaderLaw", "set", "(LQuestionReader;I[J)I"⟩, method_14_code, 4, some (.int), [(0, 9, 12, 19)])
theorem d_LW_set_0 : decode M_LW_set.2.1 0 = .ok (.aload_n 2, 1) := by decide +kernel
theorem d_LW_set_1 : decode M_LW_set.2.1 1 = .ok (.iconst 0, 1) := by decide +kernel
theorem d_LW_set_2 : decode M_LW_set.2.1 2 = .ok (.aload_n 0, 1) := by decide +kernel
theorem d_LW_set_3 : decode M_LW_set.2.1 3 = .ok (.iload_n 1, 1) := by decide +kernel
theorem d_LW_set_4 : decode M_LW_set.2.1 4 = .ok (.invokevirtual 50, 3) := by decide +kernel
theorem d_LW_set_7 : decode M_LW_set.2.1 7 = .ok (.i2l, 1) := by decide +kernel
theorem d_LW_set_8 : decode M_LW_set.2.1 8 = .ok (.lastore, 1) := by decide +kernel
theorem d_LW_set_9 : decode M_LW_set.2.1 9 = .ok (.goto 6, 3) := by decide +kernel
theorem d_LW_set_12 : decode M_LW_set.2.1 12 = .ok (.astore_n 3, 1) := by decide +kernel
theorem d_LW_set_13 : decode M_LW_set.2.1 13 = .ok (.iconst 1, 1) := by decide +kernel
theorem d_LW_set_14 : decode M_LW_set.2.1 14 = .ok (.ireturn, 1) := by decide +kernel
theorem d_LW_set_15 : decode M_LW_set.2.1 15 = .ok (.iconst 0, 1) := by decide +kernel
theorem d_LW_set_16 : decode M_LW_set.2.1 16 = .ok (.ireturn, 1) := by decide +kernel
theorem k_LW_set : x_kS M_LW_set 3 := ⟨⟨by decide, Or.inr w_1012⟩, w_1011, w_0, ⟨by decide, by decide⟩, by decide +kernel⟩
def M_LW_pick : x_M := (⟨"QuestionReaderLaw", "pick", "(LQuestionReader;II[J)I"⟩, method_15_code, 5, some (.int), [(0, 10, 13, 19), (0, 10, 17, 13)])
theorem d_LW_pick_0 : decode M_LW_pick.2.1 0 = .ok (.aload_n 3, 1) := by decide +kernel
theorem d_LW_pick_1 : decode M_LW_pick.2.1 1 = .ok (.iconst 0, 1) := by decide +kernel
theorem d_LW_pick_2 : decode M_LW_pick.2.1 2 = .ok (.aload_n 0, 1) := by decide +kernel
theorem d_LW_pick_3 : decode M_LW_pick.2.1 3 = .ok (.iload_n 1, 1) := by decide +kernel
theorem d_LW_pick_4 : decode M_LW_pick.2.1 4 = .ok (.iload_n 2, 1) := by decide +kernel
theorem d_LW_pick_5 : decode M_LW_pick.2.1 5 = .ok (.invokevirtual 53, 3) := by decide +kernel
theorem d_LW_pick_8 : decode M_LW_pick.2.1 8 = .ok (.i2l, 1) := by decide +kernel
theorem d_LW_pick_9 : decode M_LW_pick.2.1 9 = .ok (.lastore, 1) := by decide +kernel
theorem d_LW_pick_10 : decode M_LW_pick.2.1 10 = .ok (.goto 11, 3) := by decide +kernel
theorem d_LW_pick_13 : decode M_LW_pick.2.1 13 = .ok (.astore 4, 2) := by decide +kernel
theorem d_LW_pick_15 : decode M_LW_pick.2.1 15 = .ok (.iconst 1, 1) := by decide +kernel
theorem d_LW_pick_16 : decode M_LW_pick.2.1 16 = .ok (.ireturn, 1) := by decide +kernel
theorem d_LW_pick_17 : decode M_LW_pick.2.1 17 = .ok (.astore 4, 2) := by decide +kernel
theorem d_LW_pick_19 : decode M_LW_pick.2.1 19 = .ok (.iconst 2, 1) := by decide +kernel
theorem d_LW_pick_20 : decode M_LW_pick.2.1 20 = .ok (.ireturn, 1) := by decide +kernel
theorem d_LW_pick_21 : decode M_LW_pick.2.1 21 = .ok (.iconst 0, 1) := by decide +kernel
theorem d_LW_pick_22 : decode M_LW_pick.2.1 22 = .ok (.ireturn, 1) := by decide +kernel
theorem k_LW_pick : x_kS M_LW_pick 4 := ⟨⟨by decide, Or.inr w_1019⟩, w_1018, w_0, ⟨by decide, by decide⟩, by decide +kernel⟩
def M_LW_holds : x_M := (⟨"QuestionReaderLaw", "holds", "(LQuestionReader;[J)I"⟩, method_16_code, 3, some (.int), [(0, 15, 18, 13)])
theorem d_LW_holds_0 : decode M_LW_holds.2.1 0 = .ok (.aload_n 1, 1) := by decide +kernel
theorem d_LW_holds_1 : decode M_LW_holds.2.1 1 = .ok (.iconst 0, 1) := by decide +kernel
theorem d_LW_holds_2 : decode M_LW_holds.2.1 2 = .ok (.aload_n 0, 1) := by decide +kernel
theorem d_LW_holds_3 : decode M_LW_holds.2.1 3 = .ok (.invokevirtual 56, 3) := by decide +kernel
theorem d_LW_holds_6 : decode M_LW_holds.2.1 6 = .ok (.ifCond .eq 7, 3) := by decide +kernel
theorem d_LW_holds_9 : decode M_LW_holds.2.1 9 = .ok (.lconst 1, 1) := by decide +kernel
theorem d_LW_holds_10 : decode M_LW_holds.2.1 10 = .ok (.goto 4, 3) := by decide +kernel
theorem d_LW_holds_13 : decode M_LW_holds.2.1 13 = .ok (.lconst 0, 1) := by decide +kernel
theorem d_LW_holds_14 : decode M_LW_holds.2.1 14 = .ok (.lastore, 1) := by decide +kernel
theorem d_LW_holds_15 : decode M_LW_holds.2.1 15 = .ok (.goto 6, 3) := by decide +kernel
theorem d_LW_holds_18 : decode M_LW_holds.2.1 18 = .ok (.astore_n 2, 1) := by decide +kernel
theorem d_LW_holds_19 : decode M_LW_holds.2.1 19 = .ok (.iconst 1, 1) := by decide +kernel
theorem d_LW_holds_20 : decode M_LW_holds.2.1 20 = .ok (.ireturn, 1) := by decide +kernel
theorem d_LW_holds_21 : decode M_LW_holds.2.1 21 = .ok (.iconst 0, 1) := by decide +kernel
theorem d_LW_holds_22 : decode M_LW_holds.2.1 22 = .ok (.ireturn, 1) := by decide +kernel
theorem k_LW_holds : x_kS M_LW_holds 2 := ⟨⟨by decide, Or.inr w_1026⟩, w_1025, w_0, ⟨by decide, by decide⟩, by decide +kernel⟩
def F_LW_feed (a1 a2 a3 a4 a5 : Int32) (m : x_m) : Option (Int32 × x_m) := (F_QR_feed a1 a2 a3 a4 a5 m).bind fun r => x_w1 false r
theorem c_LW_feed {G : x_G} {r : Int32 × x_m} {a1 a2 a3 a4 a5 : Int32} {m : x_m} (h : F_LW_feed a1 a2 a3 a4 a5 m = some r) : x_R G M_LW_feed (x_rx 7 1) false [.ref 0, .int a1, .int a2, .int a3, .int a4, .int a5, .ref 424] x_np (x_hp m) (x_pi r) := by
  obtain ⟨q, e, h⟩ := x_bd h
  show x_W G M_LW_feed (x_rx 7 1) (x_Q G (x_rx 7 1) false (x_pi r)) false x_np (x_hp m) 0 0 [(0, .ref 0), (1, .int a1), (2, .int a2), (3, .int a3), (4, .int a4), (5, .int a5), (6, .ref 424)] [] 0
  refine x_aload d_LW_feed_0 rfl ?_
  refine x_iconst (v := 0) d_LW_feed_2 (by decide) ?_
  refine x_aload_n d_LW_feed_3 rfl rfl ?_
  refine x_iload_n d_LW_feed_4 rfl rfl ?_
  refine x_iload_n d_LW_feed_5 rfl rfl ?_
  refine x_iload_n d_LW_feed_6 rfl rfl ?_
  refine x_iload d_LW_feed_7 rfl ?_
  refine x_iload d_LW_feed_9 rfl ?_
  refine x_eV (M2 := M_QR_feed) (As := [.int a1, .int a2, .int a3, .int a4, .int a5]) (st := [.int 0, .ref 424]) d_LW_feed_11 w_798 k_QR_feed (c_QR_feed e) rfl sh_QR hp_QR rfl ⟨(Nat.le_of_ble_eq_true rfl), (Nat.le_of_ble_eq_true rfl)⟩ (Nat.le_of_ble_eq_true rfl) (Nat.le_of_ble_eq_true rfl) (Nat.le_of_ble_eq_true rfl) (Nat.le_of_ble_eq_true rfl) rfl (fun v hv => ?_) (fun b hb => ?_)
  · obtain ⟨q1, q2⟩ := q
    cases hv
    cases h
    refine x_i2l d_LW_feed_14 ?_
    refine x_sL (t := 3) d_LW_feed_15 rfl sa_OUT ha_OUT rfl ?_
    refine x_goto (tgt := 23) d_LW_feed_16 (by decide) ?_
    refine x_iconst (v := 0) d_LW_feed_23 (by decide) ?_
    exact x_wi d_LW_feed_24 rfl rfl (Nat.le_of_ble_eq_true rfl) (Nat.le_of_ble_eq_true rfl)
  · obtain ⟨q1, q2⟩ := q
    cases hb
    by_cases hbb : b = false
    · subst hbb
      cases h
      refine x_catch1 (Y := "java/lang/IllegalStateException") (len := 2) rfl rfl (by decide) w_797 (List.mem_of_getElem? (i := 7) rfl) (Or.inr ⟨7, d_LW_feed_19, by decide, rfl⟩) ?_
      refine x_iconst (v := 1) d_LW_feed_21 (by decide) ?_
      exact x_wi d_LW_feed_22 rfl rfl (Nat.le_of_ble_eq_true rfl) (Nat.le_of_ble_eq_true rfl)
    · rw [show x_w1 false (.inr b, q2) = if b = false then some (1, q2) else none from rfl, if_neg hbb] at h
      exact nomatch h
def F_LW_trim (a1 : Int32) (m : x_m) : Option (Int32 × x_m) := (F_QR_trim a1 m).bind fun r => x_w1 true r
theorem c_LW_trim {G : x_G} {r : Int32 × x_m} {a1 : Int32} {m : x_m} (h : F_LW_trim a1 m = some r) : x_R G M_LW_trim (x_rx 8 1) false [.ref 0, .int a1, .ref 424] x_np (x_hp m) (x_pi r) := by
  obtain ⟨q, e, h⟩ := x_bd h
  show x_W G M_LW_trim (x_rx 8 1) (x_Q G (x_rx 8 1) false (x_pi r)) false x_np (x_hp m) 0 0 [(0, .ref 0), (1, .int a1), (2, .ref 424)] [] 0
  refine x_aload_n d_LW_trim_0 rfl rfl ?_
  refine x_iconst (v := 0) d_LW_trim_1 (by decide) ?_
  refine x_aload_n d_LW_trim_2 rfl rfl ?_
  refine x_iload_n d_LW_trim_3 rfl rfl ?_
  refine x_eV (M2 := M_QR_trim) (As := [.int a1]) (st := [.int 0, .ref 424]) d_LW_trim_4 w_877 k_QR_trim (c_QR_trim e) rfl sh_QR hp_QR rfl ⟨(Nat.le_of_ble_eq_true rfl), (Nat.le_of_ble_eq_true rfl)⟩ (Nat.le_of_ble_eq_true rfl) (Nat.le_of_ble_eq_true rfl) (Nat.le_of_ble_eq_true rfl) (Nat.le_of_ble_eq_true rfl) rfl (fun v hv => ?_) (fun b hb => ?_)
  · obtain ⟨q1, q2⟩ := q
    cases hv
    cases h
    refine x_i2l d_LW_trim_7 ?_
    refine x_sL (t := 3) d_LW_trim_8 rfl sa_OUT ha_OUT rfl ?_
    refine x_goto (tgt := 15) d_LW_trim_9 (by decide) ?_
    refine x_iconst (v := 0) d_LW_trim_15 (by decide) ?_
    exact x_wi d_LW_trim_16 rfl rfl (Nat.le_of_ble_eq_true rfl) (Nat.le_of_ble_eq_true rfl)
  · obtain ⟨q1, q2⟩ := q
    cases hb
    by_cases hbb : b = true
    · subst hbb
      cases h
      refine x_catch1 (Y := "java/lang/IllegalArgumentException") (len := 1) rfl rfl (by decide) w_876 (List.mem_of_getElem? (i := 8) rfl) (Or.inl ⟨3, 3, d_LW_trim_12, rfl, by decide, rfl⟩) ?_
      refine x_iconst (v := 1) d_LW_trim_13 (by decide) ?_
      exact x_wi d_LW_trim_14 rfl rfl (Nat.le_of_ble_eq_true rfl) (Nat.le_of_ble_eq_true rfl)
    · rw [show x_w1 true (.inr b, q2) = if b = true then some (1, q2) else none from rfl, if_neg hbb] at h
      exact nomatch h
def F_LW_fault (a1 : Int32) (m : x_m) : Option (Int32 × x_m) := (F_QR_fault a1 m).bind fun r => x_w1 true r
theorem c_LW_fault {G : x_G} {r : Int32 × x_m} {a1 : Int32} {m : x_m} (h : F_LW_fault a1 m = some r) : x_R G M_LW_fault (x_rx 8 1) false [.ref 0, .int a1, .ref 424] x_np (x_hp m) (x_pi r) := by
  obtain ⟨q, e, h⟩ := x_bd h
  show x_W G M_LW_fault (x_rx 8 1) (x_Q G (x_rx 8 1) false (x_pi r)) false x_np (x_hp m) 0 0 [(0, .ref 0), (1, .int a1), (2, .ref 424)] [] 0
  refine x_aload_n d_LW_fault_0 rfl rfl ?_
  refine x_iconst (v := 0) d_LW_fault_1 (by decide) ?_
  refine x_aload_n d_LW_fault_2 rfl rfl ?_
  refine x_iload_n d_LW_fault_3 rfl rfl ?_
  refine x_eV (M2 := M_QR_fault) (As := [.int a1]) (st := [.int 0, .ref 424]) d_LW_fault_4 w_903 k_QR_fault (c_QR_fault e) rfl sh_QR hp_QR rfl ⟨(Nat.le_of_ble_eq_true rfl), (Nat.le_of_ble_eq_true rfl)⟩ (Nat.le_of_ble_eq_true rfl) (Nat.le_of_ble_eq_true rfl) (Nat.le_of_ble_eq_true rfl) (Nat.le_of_ble_eq_true rfl) rfl (fun v hv => ?_) (fun b hb => ?_)
  · obtain ⟨q1, q2⟩ := q
    cases hv
    cases h
    refine x_i2l d_LW_fault_7 ?_
    refine x_sL (t := 3) d_LW_fault_8 rfl sa_OUT ha_OUT rfl ?_
    refine x_goto (tgt := 15) d_LW_fault_9 (by decide) ?_
    refine x_iconst (v := 0) d_LW_fault_15 (by decide) ?_
    exact x_wi d_LW_fault_16 rfl rfl (Nat.le_of_ble_eq_true rfl) (Nat.le_of_ble_eq_true rfl)
  · obtain ⟨q1, q2⟩ := q
    cases hb
    by_cases hbb : b = true
    · subst hbb
      cases h
      refine x_catch1 (Y := "java/lang/IllegalArgumentException") (len := 1) rfl rfl (by decide) w_876 (List.mem_of_getElem? (i := 8) rfl) (Or.inl ⟨3, 3, d_LW_fault_12, rfl, by decide, rfl⟩) ?_
      refine x_iconst (v := 1) d_LW_fault_13 (by decide) ?_
      exact x_wi d_LW_fault_14 rfl rfl (Nat.le_of_ble_eq_true rfl) (Nat.le_of_ble_eq_true rfl)
    · rw [show x_w1 true (.inr b, q2) = if b = true then some (1, q2) else none from rfl, if_neg hbb] at h
      exact nomatch h
def F_LW_count (a1 : Int32) (m : x_m) : Option (Int32 × x_m) := (F_QR_count a1 m).bind fun r => x_w1 true r
theorem c_LW_count {G : x_G} {r : Int32 × x_m} {a1 : Int32} {m : x_m} (h : F_LW_count a1 m = some r) : x_R G M_LW_count (x_rx 7 1) false [.ref 0, .int a1, .ref 424] x_np (x_hp m) (x_pi r) := by
  obtain ⟨q, e, h⟩ := x_bd h
  show x_W G M_LW_count (x_rx 7 1) (x_Q G (x_rx 7 1) false (x_pi r)) false x_np (x_hp m) 0 0 [(0, .ref 0), (1, .int a1), (2, .ref 424)] [] 0
  refine x_aload_n d_LW_count_0 rfl rfl ?_
  refine x_iconst (v := 0) d_LW_count_1 (by decide) ?_
  refine x_aload_n d_LW_count_2 rfl rfl ?_
  refine x_iload_n d_LW_count_3 rfl rfl ?_
  refine x_eV (M2 := M_QR_count) (As := [.int a1]) (st := [.int 0, .ref 424]) d_LW_count_4 w_910 k_QR_count (c_QR_count e) rfl sh_QR hp_QR rfl ⟨(Nat.le_of_ble_eq_true rfl), (Nat.le_of_ble_eq_true rfl)⟩ (Nat.le_of_ble_eq_true rfl) (Nat.le_of_ble_eq_true rfl) (Nat.le_of_ble_eq_true rfl) (Nat.le_of_ble_eq_true rfl) rfl (fun v hv => ?_) (fun b hb => ?_)
  · obtain ⟨q1, q2⟩ := q
    cases hv
    cases h
    refine x_i2l d_LW_count_7 ?_
    refine x_sL (t := 3) d_LW_count_8 rfl sa_OUT ha_OUT rfl ?_
    refine x_goto (tgt := 15) d_LW_count_9 (by decide) ?_
    refine x_iconst (v := 0) d_LW_count_15 (by decide) ?_
    exact x_wi d_LW_count_16 rfl rfl (Nat.le_of_ble_eq_true rfl) (Nat.le_of_ble_eq_true rfl)
  · obtain ⟨q1, q2⟩ := q
    cases hb
    by_cases hbb : b = true
    · subst hbb
      cases h
      refine x_catch1 (Y := "java/lang/IllegalArgumentException") (len := 1) rfl rfl (by decide) w_876 (List.mem_of_getElem? (i := 8) rfl) (Or.inl ⟨3, 3, d_LW_count_12, rfl, by decide, rfl⟩) ?_
      refine x_iconst (v := 1) d_LW_count_13 (by decide) ?_
      exact x_wi d_LW_count_14 rfl rfl (Nat.le_of_ble_eq_true rfl) (Nat.le_of_ble_eq_true rfl)
    · rw [show x_w1 true (.inr b, q2) = if b = true then some (1, q2) else none from rfl, if_neg hbb] at h
      exact nomatch h
def F_LW_dimension (a1 a2 : Int32) (m : x_m) : Option (Int32 × x_m) := (F_QR_dimension a1 a2 m).bind fun r => x_w1 true r
theorem c_LW_dimension {G : x_G} {r : Int32 × x_m} {a1 a2 : Int32} {m : x_m} (h : F_LW_dimension a1 a2 m = some r) : x_R G M_LW_dimension (x_rx 8 1) false [.ref 0, .int a1, .int a2, .ref 424] x_np (x_hp m) (x_pi r) := by
  obtain ⟨q, e, h⟩ := x_bd h
  show x_W G M_LW_dimension (x_rx 8 1) (x_Q G (x_rx 8 1) false (x_pi r)) false x_np (x_hp m) 0 0 [(0, .ref 0), (1, .int a1), (2, .int a2), (3, .ref 424)] [] 0
  refine x_aload_n d_LW_dimension_0 rfl rfl ?_
  refine x_iconst (v := 0) d_LW_dimension_1 (by decide) ?_
  refine x_aload_n d_LW_dimension_2 rfl rfl ?_
  refine x_iload_n d_LW_dimension_3 rfl rfl ?_
  refine x_iload_n d_LW_dimension_4 rfl rfl ?_
  refine x_eV (M2 := M_QR_dimension) (As := [.int a1, .int a2]) (st := [.int 0, .ref 424]) d_LW_dimension_5 w_918 k_QR_dimension (c_QR_dimension e) rfl sh_QR hp_QR rfl ⟨(Nat.le_of_ble_eq_true rfl), (Nat.le_of_ble_eq_true rfl)⟩ (Nat.le_of_ble_eq_true rfl) (Nat.le_of_ble_eq_true rfl) (Nat.le_of_ble_eq_true rfl) (Nat.le_of_ble_eq_true rfl) rfl (fun v hv => ?_) (fun b hb => ?_)
  · obtain ⟨q1, q2⟩ := q
    cases hv
    cases h
    refine x_i2l d_LW_dimension_8 ?_
    refine x_sL (t := 3) d_LW_dimension_9 rfl sa_OUT ha_OUT rfl ?_
    refine x_goto (tgt := 17) d_LW_dimension_10 (by decide) ?_
    refine x_iconst (v := 0) d_LW_dimension_17 (by decide) ?_
    exact x_wi d_LW_dimension_18 rfl rfl (Nat.le_of_ble_eq_true rfl) (Nat.le_of_ble_eq_true rfl)
  · obtain ⟨q1, q2⟩ := q
    cases hb
    by_cases hbb : b = true
    · subst hbb
      cases h
      refine x_catch1 (Y := "java/lang/IllegalArgumentException") (len := 2) rfl rfl (by decide) w_876 (List.mem_of_getElem? (i := 8) rfl) (Or.inr ⟨4, d_LW_dimension_13, by decide, rfl⟩) ?_
      refine x_iconst (v := 1) d_LW_dimension_15 (by decide) ?_
      exact x_wi d_LW_dimension_16 rfl rfl (Nat.le_of_ble_eq_true rfl) (Nat.le_of_ble_eq_true rfl)
    · rw [show x_w1 true (.inr b, q2) = if b = true then some (1, q2) else none from rfl, if_neg hbb] at h
      exact nomatch h
def F_LW_value (a1 a2 a3 : Int32) (m : x_m) : Option (Int32 × x_m) := (F_QR_value a1 a2 a3 m).bind fun r => x_w1 true r
theorem c_LW_value {G : x_G} {r : Int32 × x_m} {a1 a2 a3 : Int32} {m : x_m} (h : F_LW_value a1 a2 a3 m = some r) : x_R G M_LW_value (x_rx 8 1) false [.ref 0, .int a1, .int a2, .int a3, .ref 424] x_np (x_hp m) (x_pi r) := by
  obtain ⟨q, e, h⟩ := x_bd h
  show x_W G M_LW_value (x_rx 8 1) (x_Q G (x_rx 8 1) false (x_pi r)) false x_np (x_hp m) 0 0 [(0, .ref 0), (1, .int a1), (2, .int a2), (3, .int a3), (4, .ref 424)] [] 0
  refine x_aload d_LW_value_0 rfl ?_
  refine x_iconst (v := 0) d_LW_value_2 (by decide) ?_
  refine x_aload_n d_LW_value_3 rfl rfl ?_
  refine x_iload_n d_LW_value_4 rfl rfl ?_
  refine x_iload_n d_LW_value_5 rfl rfl ?_
  refine x_iload_n d_LW_value_6 rfl rfl ?_
  refine x_eV (M2 := M_QR_value) (As := [.int a1, .int a2, .int a3]) (st := [.int 0, .ref 424]) d_LW_value_7 w_929 k_QR_value (c_QR_value e) rfl sh_QR hp_QR rfl ⟨(Nat.le_of_ble_eq_true rfl), (Nat.le_of_ble_eq_true rfl)⟩ (Nat.le_of_ble_eq_true rfl) (Nat.le_of_ble_eq_true rfl) (Nat.le_of_ble_eq_true rfl) (Nat.le_of_ble_eq_true rfl) rfl (fun v hv => ?_) (fun b hb => ?_)
  · obtain ⟨q1, q2⟩ := q
    cases hv
    cases h
    refine x_i2l d_LW_value_10 ?_
    refine x_sL (t := 3) d_LW_value_11 rfl sa_OUT ha_OUT rfl ?_
    refine x_goto (tgt := 19) d_LW_value_12 (by decide) ?_
    refine x_iconst (v := 0) d_LW_value_19 (by decide) ?_
    exact x_wi d_LW_value_20 rfl rfl (Nat.le_of_ble_eq_true rfl) (Nat.le_of_ble_eq_true rfl)
  · obtain ⟨q1, q2⟩ := q
    cases hb
    by_cases hbb : b = true
    · subst hbb
      cases h
      refine x_catch1 (Y := "java/lang/IllegalArgumentException") (len := 2) rfl rfl (by decide) w_876 (List.mem_of_getElem? (i := 8) rfl) (Or.inr ⟨5, d_LW_value_15, by decide, rfl⟩) ?_
      refine x_iconst (v := 1) d_LW_value_17 (by decide) ?_
      exact x_wi d_LW_value_18 rfl rfl (Nat.le_of_ble_eq_true rfl) (Nat.le_of_ble_eq_true rfl)
    · rw [show x_w1 true (.inr b, q2) = if b = true then some (1, q2) else none from rfl, if_neg hbb] at h
      exact nomatch h
def F_LW_rank (a1 a2 a3 : Int32) (m : x_m) : Option (Int32 × x_m) := (F_QR_rank a1 a2 a3 m).bind fun r => x_w2 r
theorem c_LW_rank {G : x_G} {r : Int32 × x_m} {a1 a2 a3 : Int32} {m : x_m} (h : F_LW_rank a1 a2 a3 m = some r) : x_R G M_LW_rank (x_rx 8 2) false [.ref 0, .int a1, .int a2, .int a3, .ref 424] x_np (x_hp m) (x_pi r) := by
  obtain ⟨q, e, h⟩ := x_bd h
  show x_W G M_LW_rank (x_rx 8 2) (x_Q G (x_rx 8 2) false (x_pi r)) false x_np (x_hp m) 0 0 [(0, .ref 0), (1, .int a1), (2, .int a2), (3, .int a3), (4, .ref 424)] [] 0
  refine x_aload d_LW_rank_0 rfl ?_
  refine x_iconst (v := 0) d_LW_rank_2 (by decide) ?_
  refine x_aload_n d_LW_rank_3 rfl rfl ?_
  refine x_iload_n d_LW_rank_4 rfl rfl ?_
  refine x_iload_n d_LW_rank_5 rfl rfl ?_
  refine x_iload_n d_LW_rank_6 rfl rfl ?_
  refine x_eV (M2 := M_QR_rank) (As := [.int a1, .int a2, .int a3]) (st := [.int 0, .ref 424]) d_LW_rank_7 w_949 k_QR_rank (c_QR_rank e) rfl sh_QR hp_QR rfl ⟨(Nat.le_of_ble_eq_true rfl), (Nat.le_of_ble_eq_true rfl)⟩ (Nat.le_of_ble_eq_true rfl) (Nat.le_of_ble_eq_true rfl) (Nat.le_of_ble_eq_true rfl) (Nat.le_of_ble_eq_true rfl) rfl (fun v hv => ?_) (fun b hb => ?_)
  · obtain ⟨q1, q2⟩ := q
    cases hv
    cases h
    refine x_i2l d_LW_rank_10 ?_
    refine x_sL (t := 3) d_LW_rank_11 rfl sa_OUT ha_OUT rfl ?_
    refine x_goto (tgt := 23) d_LW_rank_12 (by decide) ?_
    refine x_iconst (v := 0) d_LW_rank_23 (by decide) ?_
    exact x_wi d_LW_rank_24 rfl rfl (Nat.le_of_ble_eq_true rfl) (Nat.le_of_ble_eq_true rfl)
  · obtain ⟨q1, q2⟩ := q
    cases hb
    cases b with
    | true =>
      cases h
      refine x_catch1 (Y := "java/lang/IllegalArgumentException") (len := 2) rfl rfl (by decide) w_876 (List.mem_of_getElem? (i := 8) rfl) (Or.inr ⟨5, d_LW_rank_15, by decide, rfl⟩) ?_
      refine x_iconst (v := 1) d_LW_rank_17 (by decide) ?_
      exact x_wi d_LW_rank_18 rfl rfl (Nat.le_of_ble_eq_true rfl) (Nat.le_of_ble_eq_true rfl)
    | false =>
      cases h
      refine x_catch2 (Y0 := "java/lang/IllegalArgumentException") (Y := "java/lang/IllegalStateException") (len := 2) rfl rfl rfl (by decide) (by decide) w_876 w_797 (List.mem_of_getElem? (i := 7) rfl) 187 rfl (Or.inr ⟨5, d_LW_rank_19, by decide, rfl⟩) ?_
      refine x_iconst (v := 2) d_LW_rank_21 (by decide) ?_
      exact x_wi d_LW_rank_22 rfl rfl (Nat.le_of_ble_eq_true rfl) (Nat.le_of_ble_eq_true rfl)
def F_LW_find (a1 a2 : Int32) (m : x_m) : Option (Int32 × x_m) := (F_QR_find a1 a2 m).bind fun r => x_w2 r
theorem c_LW_find {G : x_G} {r : Int32 × x_m} {a1 a2 : Int32} {m : x_m} (h : F_LW_find a1 a2 m = some r) : x_R G M_LW_find (x_rx 8 2) false [.ref 0, .int a1, .int a2, .ref 424] x_np (x_hp m) (x_pi r) := by
  obtain ⟨q, e, h⟩ := x_bd h
  show x_W G M_LW_find (x_rx 8 2) (x_Q G (x_rx 8 2) false (x_pi r)) false x_np (x_hp m) 0 0 [(0, .ref 0), (1, .int a1), (2, .int a2), (3, .ref 424)] [] 0
  refine x_aload_n d_LW_find_0 rfl rfl ?_
  refine x_iconst (v := 0) d_LW_find_1 (by decide) ?_
  refine x_aload_n d_LW_find_2 rfl rfl ?_
  refine x_iload_n d_LW_find_3 rfl rfl ?_
  refine x_iload_n d_LW_find_4 rfl rfl ?_
  refine x_eV (M2 := M_QR_find) (As := [.int a1, .int a2]) (st := [.int 0, .ref 424]) d_LW_find_5 w_966 k_QR_find (c_QR_find e) rfl sh_QR hp_QR rfl ⟨(Nat.le_of_ble_eq_true rfl), (Nat.le_of_ble_eq_true rfl)⟩ (Nat.le_of_ble_eq_true rfl) (Nat.le_of_ble_eq_true rfl) (Nat.le_of_ble_eq_true rfl) (Nat.le_of_ble_eq_true rfl) rfl (fun v hv => ?_) (fun b hb => ?_)
  · obtain ⟨q1, q2⟩ := q
    cases hv
    cases h
    refine x_i2l d_LW_find_8 ?_
    refine x_sL (t := 3) d_LW_find_9 rfl sa_OUT ha_OUT rfl ?_
    refine x_goto (tgt := 21) d_LW_find_10 (by decide) ?_
    refine x_iconst (v := 0) d_LW_find_21 (by decide) ?_
    exact x_wi d_LW_find_22 rfl rfl (Nat.le_of_ble_eq_true rfl) (Nat.le_of_ble_eq_true rfl)
  · obtain ⟨q1, q2⟩ := q
    cases hb
    cases b with
    | true =>
      cases h
      refine x_catch1 (Y := "java/lang/IllegalArgumentException") (len := 2) rfl rfl (by decide) w_876 (List.mem_of_getElem? (i := 8) rfl) (Or.inr ⟨4, d_LW_find_13, by decide, rfl⟩) ?_
      refine x_iconst (v := 1) d_LW_find_15 (by decide) ?_
      exact x_wi d_LW_find_16 rfl rfl (Nat.le_of_ble_eq_true rfl) (Nat.le_of_ble_eq_true rfl)
    | false =>
      cases h
      refine x_catch2 (Y0 := "java/lang/IllegalArgumentException") (Y := "java/lang/IllegalStateException") (len := 2) rfl rfl rfl (by decide) (by decide) w_876 w_797 (List.mem_of_getElem? (i := 7) rfl) 187 rfl (Or.inr ⟨4, d_LW_find_17, by decide, rfl⟩) ?_
      refine x_iconst (v := 2) d_LW_find_19 (by decide) ?_
      exact x_wi d_LW_find_20 rfl rfl (Nat.le_of_ble_eq_true rfl) (Nat.le_of_ble_eq_true rfl)
def F_LW_letter (a1 a2 : Int32) (m : x_m) : Option (Int32 × x_m) := (F_QR_letter a1 a2 m).bind fun r => x_w1 true r
theorem c_LW_letter {G : x_G} {r : Int32 × x_m} {a1 a2 : Int32} {m : x_m} (h : F_LW_letter a1 a2 m = some r) : x_R G M_LW_letter (x_rx 8 1) false [.ref 0, .int a1, .int a2, .ref 424] x_np (x_hp m) (x_pi r) := by
  obtain ⟨q, e, h⟩ := x_bd h
  show x_W G M_LW_letter (x_rx 8 1) (x_Q G (x_rx 8 1) false (x_pi r)) false x_np (x_hp m) 0 0 [(0, .ref 0), (1, .int a1), (2, .int a2), (3, .ref 424)] [] 0
  refine x_aload_n d_LW_letter_0 rfl rfl ?_
  refine x_iconst (v := 0) d_LW_letter_1 (by decide) ?_
  refine x_aload_n d_LW_letter_2 rfl rfl ?_
  refine x_iload_n d_LW_letter_3 rfl rfl ?_
  refine x_iload_n d_LW_letter_4 rfl rfl ?_
  refine x_eV (M2 := M_QR_letter) (As := [.int a1, .int a2]) (st := [.int 0, .ref 424]) d_LW_letter_5 w_977 k_QR_letter (c_QR_letter e) rfl sh_QR hp_QR rfl ⟨(Nat.le_of_ble_eq_true rfl), (Nat.le_of_ble_eq_true rfl)⟩ (Nat.le_of_ble_eq_true rfl) (Nat.le_of_ble_eq_true rfl) (Nat.le_of_ble_eq_true rfl) (Nat.le_of_ble_eq_true rfl) rfl (fun v hv => ?_) (fun b hb => ?_)
  · obtain ⟨q1, q2⟩ := q
    cases hv
    cases h
    refine x_i2l d_LW_letter_8 ?_
    refine x_sL (t := 3) d_LW_letter_9 rfl sa_OUT ha_OUT rfl ?_
    refine x_goto (tgt := 17) d_LW_letter_10 (by decide) ?_
    refine x_iconst (v := 0) d_LW_letter_17 (by decide) ?_
    exact x_wi d_LW_letter_18 rfl rfl (Nat.le_of_ble_eq_true rfl) (Nat.le_of_ble_eq_true rfl)
  · obtain ⟨q1, q2⟩ := q
    cases hb
    by_cases hbb : b = true
    · subst hbb
      cases h
      refine x_catch1 (Y := "java/lang/IllegalArgumentException") (len := 2) rfl rfl (by decide) w_876 (List.mem_of_getElem? (i := 8) rfl) (Or.inr ⟨4, d_LW_letter_13, by decide, rfl⟩) ?_
      refine x_iconst (v := 1) d_LW_letter_15 (by decide) ?_
      exact x_wi d_LW_letter_16 rfl rfl (Nat.le_of_ble_eq_true rfl) (Nat.le_of_ble_eq_true rfl)
    · rw [show x_w1 true (.inr b, q2) = if b = true then some (1, q2) else none from rfl, if_neg hbb] at h
      exact nomatch h
def F_LW_item (a1 a2 : Int32) (m : x_m) : Option (Int32 × x_m) := (F_QR_item a1 a2 m).bind fun r => x_w1 true r
theorem c_LW_item {G : x_G} {r : Int32 × x_m} {a1 a2 : Int32} {m : x_m} (h : F_LW_item a1 a2 m = some r) : x_R G M_LW_item (x_rx 8 1) false [.ref 0, .int a1, .int a2, .ref 424] x_np (x_hp m) (x_pi r) := by
  obtain ⟨q, e, h⟩ := x_bd h
  show x_W G M_LW_item (x_rx 8 1) (x_Q G (x_rx 8 1) false (x_pi r)) false x_np (x_hp m) 0 0 [(0, .ref 0), (1, .int a1), (2, .int a2), (3, .ref 424)] [] 0
  refine x_aload_n d_LW_item_0 rfl rfl ?_
  refine x_iconst (v := 0) d_LW_item_1 (by decide) ?_
  refine x_aload_n d_LW_item_2 rfl rfl ?_
  refine x_iload_n d_LW_item_3 rfl rfl ?_
  refine x_iload_n d_LW_item_4 rfl rfl ?_
  refine x_eV (M2 := M_QR_item) (As := [.int a1, .int a2]) (st := [.int 0, .ref 424]) d_LW_item_5 w_999 k_QR_item (c_QR_item e) rfl sh_QR hp_QR rfl ⟨(Nat.le_of_ble_eq_true rfl), (Nat.le_of_ble_eq_true rfl)⟩ (Nat.le_of_ble_eq_true rfl) (Nat.le_of_ble_eq_true rfl) (Nat.le_of_ble_eq_true rfl) (Nat.le_of_ble_eq_true rfl) rfl (fun v hv => ?_) (fun b hb => ?_)
  · obtain ⟨q1, q2⟩ := q
    cases hv
    cases h
    refine x_i2l d_LW_item_8 ?_
    refine x_sL (t := 3) d_LW_item_9 rfl sa_OUT ha_OUT rfl ?_
    refine x_goto (tgt := 17) d_LW_item_10 (by decide) ?_
    refine x_iconst (v := 0) d_LW_item_17 (by decide) ?_
    exact x_wi d_LW_item_18 rfl rfl (Nat.le_of_ble_eq_true rfl) (Nat.le_of_ble_eq_true rfl)
  · obtain ⟨q1, q2⟩ := q
    cases hb
    by_cases hbb : b = true
    · subst hbb
      cases h
      refine x_catch1 (Y := "java/lang/IllegalArgumentException") (len := 2) rfl rfl (by decide) w_876 (List.mem_of_getElem? (i := 8) rfl) (Or.inr ⟨4, d_LW_item_13, by decide, rfl⟩) ?_
      refine x_iconst (v := 1) d_LW_item_15 (by decide) ?_
      exact x_wi d_LW_item_16 rfl rfl (Nat.le_of_ble_eq_true rfl) (Nat.le_of_ble_eq_true rfl)
    · rw [show x_w1 true (.inr b, q2) = if b = true then some (1, q2) else none from rfl, if_neg hbb] at h
      exact nomatch h
def F_LW_group (a1 : Int32) (m : x_m) : Option (Int32 × x_m) := (F_QR_group a1 m).bind fun r => x_w1 true r
theorem c_LW_group {G : x_G} {r : Int32 × x_m} {a1 : Int32} {m : x_m} (h : F_LW_group a1 m = some r) : x_R G M_LW_group (x_rx 8 1) false [.ref 0, .int a1, .ref 424] x_np (x_hp m) (x_pi r) := by
  obtain ⟨q, e, h⟩ := x_bd h
  show x_W G M_LW_group (x_rx 8 1) (x_Q G (x_rx 8 1) false (x_pi r)) false x_np (x_hp m) 0 0 [(0, .ref 0), (1, .int a1), (2, .ref 424)] [] 0
  refine x_aload_n d_LW_group_0 rfl rfl ?_
  refine x_iconst (v := 0) d_LW_group_1 (by decide) ?_
  refine x_aload_n d_LW_group_2 rfl rfl ?_
  refine x_iload_n d_LW_group_3 rfl rfl ?_
  refine x_eV (M2 := M_QR_group) (As := [.int a1]) (st := [.int 0, .ref 424]) d_LW_group_4 w_1006 k_QR_group (c_QR_group e) rfl sh_QR hp_QR rfl ⟨(Nat.le_of_ble_eq_true rfl), (Nat.le_of_ble_eq_true rfl)⟩ (Nat.le_of_ble_eq_true rfl) (Nat.le_of_ble_eq_true rfl) (Nat.le_of_ble_eq_true rfl) (Nat.le_of_ble_eq_true rfl) rfl (fun v hv => ?_) (fun b hb => ?_)
  · obtain ⟨q1, q2⟩ := q
    cases hv
    cases h
    refine x_i2l d_LW_group_7 ?_
    refine x_sL (t := 3) d_LW_group_8 rfl sa_OUT ha_OUT rfl ?_
    refine x_goto (tgt := 15) d_LW_group_9 (by decide) ?_
    refine x_iconst (v := 0) d_LW_group_15 (by decide) ?_
    exact x_wi d_LW_group_16 rfl rfl (Nat.le_of_ble_eq_true rfl) (Nat.le_of_ble_eq_true rfl)
  · obtain ⟨q1, q2⟩ := q
    cases hb
    by_cases hbb : b = true
    · subst hbb
      cases h
      refine x_catch1 (Y := "java/lang/IllegalArgumentException") (len := 1) rfl rfl (by decide) w_876 (List.mem_of_getElem? (i := 8) rfl) (Or.inl ⟨3, 3, d_LW_group_12, rfl, by decide, rfl⟩) ?_
      refine x_iconst (v := 1) d_LW_group_13 (by decide) ?_
      exact x_wi d_LW_group_14 rfl rfl (Nat.le_of_ble_eq_true rfl) (Nat.le_of_ble_eq_true rfl)
    · rw [show x_w1 true (.inr b, q2) = if b = true then some (1, q2) else none from rfl, if_neg hbb] at h
      exact nomatch h
def F_LW_set (a1 : Int32) (m : x_m) : Option (Int32 × x_m) := (F_QR_set a1 m).bind fun r => x_w1 true r
theorem c_LW_set {G : x_G} {r : Int32 × x_m} {a1 : Int32} {m : x_m} (h : F_LW_set a1 m = some r) : x_R G M_LW_set (x_rx 8 1) false [.ref 0, .int a1, .ref 424] x_np (x_hp m) (x_pi r) := by
  obtain ⟨q, e, h⟩ := x_bd h
  show x_W G M_LW_set (x_rx 8 1) (x_Q G (x_rx 8 1) false (x_pi r)) false x_np (x_hp m) 0 0 [(0, .ref 0), (1, .int a1), (2, .ref 424)] [] 0
  refine x_aload_n d_LW_set_0 rfl rfl ?_
  refine x_iconst (v := 0) d_LW_set_1 (by decide) ?_
  refine x_aload_n d_LW_set_2 rfl rfl ?_
  refine x_iload_n d_LW_set_3 rfl rfl ?_
  refine x_eV (M2 := M_QR_set) (As := [.int a1]) (st := [.int 0, .ref 424]) d_LW_set_4 w_1013 k_QR_set (c_QR_set e) rfl sh_QR hp_QR rfl ⟨(Nat.le_of_ble_eq_true rfl), (Nat.le_of_ble_eq_true rfl)⟩ (Nat.le_of_ble_eq_true rfl) (Nat.le_of_ble_eq_true rfl) (Nat.le_of_ble_eq_true rfl) (Nat.le_of_ble_eq_true rfl) rfl (fun v hv => ?_) (fun b hb => ?_)
  · obtain ⟨q1, q2⟩ := q
    cases hv
    cases h
    refine x_i2l d_LW_set_7 ?_
    refine x_sL (t := 3) d_LW_set_8 rfl sa_OUT ha_OUT rfl ?_
    refine x_goto (tgt := 15) d_LW_set_9 (by decide) ?_
    refine x_iconst (v := 0) d_LW_set_15 (by decide) ?_
    exact x_wi d_LW_set_16 rfl rfl (Nat.le_of_ble_eq_true rfl) (Nat.le_of_ble_eq_true rfl)
  · obtain ⟨q1, q2⟩ := q
    cases hb
    by_cases hbb : b = true
    · subst hbb
      cases h
      refine x_catch1 (Y := "java/lang/IllegalArgumentException") (len := 1) rfl rfl (by decide) w_876 (List.mem_of_getElem? (i := 8) rfl) (Or.inl ⟨3, 3, d_LW_set_12, rfl, by decide, rfl⟩) ?_
      refine x_iconst (v := 1) d_LW_set_13 (by decide) ?_
      exact x_wi d_LW_set_14 rfl rfl (Nat.le_of_ble_eq_true rfl) (Nat.le_of_ble_eq_true rfl)
    · rw [show x_w1 true (.inr b, q2) = if b = true then some (1, q2) else none from rfl, if_neg hbb] at h
      exact nomatch h
def F_LW_pick (a1 a2 : Int32) (m : x_m) : Option (Int32 × x_m) := (F_QR_pick a1 a2 m).bind fun r => x_w2 r
theorem c_LW_pick {G : x_G} {r : Int32 × x_m} {a1 a2 : Int32} {m : x_m} (h : F_LW_pick a1 a2 m = some r) : x_R G M_LW_pick (x_rx 8 2) false [.ref 0, .int a1, .int a2, .ref 424] x_np (x_hp m) (x_pi r) := by
  obtain ⟨q, e, h⟩ := x_bd h
  show x_W G M_LW_pick (x_rx 8 2) (x_Q G (x_rx 8 2) false (x_pi r)) false x_np (x_hp m) 0 0 [(0, .ref 0), (1, .int a1), (2, .int a2), (3, .ref 424)] [] 0
  refine x_aload_n d_LW_pick_0 rfl rfl ?_
  refine x_iconst (v := 0) d_LW_pick_1 (by decide) ?_
  refine x_aload_n d_LW_pick_2 rfl rfl ?_
  refine x_iload_n d_LW_pick_3 rfl rfl ?_
  refine x_iload_n d_LW_pick_4 rfl rfl ?_
  refine x_eV (M2 := M_QR_pick) (As := [.int a1, .int a2]) (st := [.int 0, .ref 424]) d_LW_pick_5 w_1020 k_QR_pick (c_QR_pick e) rfl sh_QR hp_QR rfl ⟨(Nat.le_of_ble_eq_true rfl), (Nat.le_of_ble_eq_true rfl)⟩ (Nat.le_of_ble_eq_true rfl) (Nat.le_of_ble_eq_true rfl) (Nat.le_of_ble_eq_true rfl) (Nat.le_of_ble_eq_true rfl) rfl (fun v hv => ?_) (fun b hb => ?_)
  · obtain ⟨q1, q2⟩ := q
    cases hv
    cases h
    refine x_i2l d_LW_pick_8 ?_
    refine x_sL (t := 3) d_LW_pick_9 rfl sa_OUT ha_OUT rfl ?_
    refine x_goto (tgt := 21) d_LW_pick_10 (by decide) ?_
    refine x_iconst (v := 0) d_LW_pick_21 (by decide) ?_
    exact x_wi d_LW_pick_22 rfl rfl (Nat.le_of_ble_eq_true rfl) (Nat.le_of_ble_eq_true rfl)
  · obtain ⟨q1, q2⟩ := q
    cases hb
    cases b with
    | true =>
      cases h
      refine x_catch1 (Y := "java/lang/IllegalArgumentException") (len := 2) rfl rfl (by decide) w_876 (List.mem_of_getElem? (i := 8) rfl) (Or.inr ⟨4, d_LW_pick_13, by decide, rfl⟩) ?_
      refine x_iconst (v := 1) d_LW_pick_15 (by decide) ?_
      exact x_wi d_LW_pick_16 rfl rfl (Nat.le_of_ble_eq_true rfl) (Nat.le_of_ble_eq_true rfl)
    | false =>
      cases h
      refine x_catch2 (Y0 := "java/lang/IllegalArgumentException") (Y := "java/lang/IllegalStateException") (len := 2) rfl rfl rfl (by decide) (by decide) w_876 w_797 (List.mem_of_getElem? (i := 7) rfl) 187 rfl (Or.inr ⟨4, d_LW_pick_17, by decide, rfl⟩) ?_
      refine x_iconst (v := 2) d_LW_pick_19 (by decide) ?_
      exact x_wi d_LW_pick_20 rfl rfl (Nat.le_of_ble_eq_true rfl) (Nat.le_of_ble_eq_true rfl)
def F_LW_holds (m : x_m) : Option (Int32 × x_m) := (F_QR_holds  m).bind fun r => x_wh r
theorem c_LW_holds {G : x_G} {r : Int32 × x_m} {m : x_m} (h : F_LW_holds  m = some r) : x_R G M_LW_holds (x_rx 7 1) false [.ref 0, .ref 424] x_np (x_hp m) (x_pi r) := by
  obtain ⟨q, e, h⟩ := x_bd h
  show x_W G M_LW_holds (x_rx 7 1) (x_Q G (x_rx 7 1) false (x_pi r)) false x_np (x_hp m) 0 0 [(0, .ref 0), (1, .ref 424)] [] 0
  refine x_aload_n d_LW_holds_0 rfl rfl ?_
  refine x_iconst (v := 0) d_LW_holds_1 (by decide) ?_
  refine x_aload_n d_LW_holds_2 rfl rfl ?_
  refine x_eV (M2 := M_QR_holds) (As := []) (st := [.int 0, .ref 424]) d_LW_holds_3 w_1027 k_QR_holds (c_QR_holds e) rfl sh_QR hp_QR rfl ⟨(Nat.le_of_ble_eq_true rfl), (Nat.le_of_ble_eq_true rfl)⟩ (Nat.le_of_ble_eq_true rfl) (Nat.le_of_ble_eq_true rfl) (Nat.le_of_ble_eq_true rfl) (Nat.le_of_ble_eq_true rfl) rfl (fun v hv => ?_) (fun b hb => ?_)
  · obtain ⟨q1, q2⟩ := q
    cases hv
    refine x_if_eq (tgt := 13) d_LW_holds_6 (by decide) (fun c_ => ?_) (fun c_ => ?_)
    · rw [show x_wh (.inl v, q2) = some (0, x_wL q2 424 0 (if v = 0 then 0 else 1)) from rfl, if_pos c_] at h
      cases h
      refine x_lconst (v := 0) d_LW_holds_13 (by decide) ?_
      refine x_sL (t := 3) d_LW_holds_14 rfl sa_OUT ha_OUT rfl ?_
      refine x_goto (tgt := 21) d_LW_holds_15 (by decide) ?_
      refine x_iconst (v := 0) d_LW_holds_21 (by decide) ?_
      exact x_wi d_LW_holds_22 rfl rfl (Nat.le_of_ble_eq_true rfl) (Nat.le_of_ble_eq_true rfl)
    · rw [show x_wh (.inl v, q2) = some (0, x_wL q2 424 0 (if v = 0 then 0 else 1)) from rfl, if_neg c_] at h
      cases h
      refine x_lconst (v := 1) d_LW_holds_9 (by decide) ?_
      refine x_goto (tgt := 14) d_LW_holds_10 (by decide) ?_
      refine x_sL (t := 3) d_LW_holds_14 rfl sa_OUT ha_OUT rfl ?_
      refine x_goto (tgt := 21) d_LW_holds_15 (by decide) ?_
      refine x_iconst (v := 0) d_LW_holds_21 (by decide) ?_
      exact x_wi d_LW_holds_22 rfl rfl (Nat.le_of_ble_eq_true rfl) (Nat.le_of_ble_eq_true rfl)
  · obtain ⟨q1, q2⟩ := q
    cases hb
    by_cases hbb : b = false
    · subst hbb
      cases h
      refine x_catch1 (Y := "java/lang/IllegalStateException") (len := 1) rfl rfl (by decide) w_797 (List.mem_of_getElem? (i := 7) rfl) (Or.inl ⟨2, 2, d_LW_holds_18, rfl, by decide, rfl⟩) ?_
      refine x_iconst (v := 1) d_LW_holds_19 (by decide) ?_
      exact x_wi d_LW_holds_20 rfl rfl (Nat.le_of_ble_eq_true rfl) (Nat.le_of_ble_eq_true rfl)
    · rw [show x_wh (.inr b, q2) = if b = false then some (1, q2) else none from rfl, if_neg hbb] at h
      exact nomatch h
