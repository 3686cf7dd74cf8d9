def M_QU_isAsked : x_M := (⟨"QuestionReader$Question", "isAsked", "()Z"⟩, prog_10_method_4_code, 1, some (.boolean), [])
theorem d_QU_isAsked_0 : decode M_QU_isAsked.2.1 0 = .ok (.aload_n 0, 1) := by decide +kernel
theorem d_QU_isAsked_1 : decode M_QU_isAsked.2.1 1 = .ok (.getfield 34, 3) := by decide +kernel
theorem d_QU_isAsked_4 : decode M_QU_isAsked.2.1 4 = .ok (.ifCond .le 7, 3) := by decide +kernel
theorem d_QU_isAsked_7 : decode M_QU_isAsked.2.1 7 = .ok (.iconst 1, 1) := by decide +kernel
theorem d_QU_isAsked_8 : decode M_QU_isAsked.2.1 8 = .ok (.goto 4, 3) := by decide +kernel
theorem d_QU_isAsked_11 : decode M_QU_isAsked.2.1 11 = .ok (.iconst 0, 1) := by decide +kernel
theorem d_QU_isAsked_12 : decode M_QU_isAsked.2.1 12 = .ok (.ireturn, 1) := by decide +kernel
theorem k_QU_isAsked : x_kV M_QU_isAsked "QuestionReader$Question" 0 := ⟨⟨by decide, Or.inl ⟨w_1034, rfl⟩⟩, w_1032, w_1033, ⟨by decide, by decide⟩, by decide +kernel⟩
def B_QU_isAsked_12 (p : Nat)  (s0 : Int32) (m : x_m) : Option (Int32 × x_m) := (if x_b1 s0 = true then some (s0, m) else none)
theorem b_QU_isAsked_12 {G : x_G} {ex : Bool} {r : Int32 × x_m} {p : Nat} (hp : x_QB p)  {s0 : Int32} {m : x_m} (h : B_QU_isAsked_12 p s0 m = some r) : x_W G M_QU_isAsked (x_rd 0) (x_Q G (x_rd 0) ex (x_pi r)) ex x_np (x_hp m) 0 0 [] [.int s0] 12 := by
  unfold B_QU_isAsked_12 at h
  obtain ⟨g_12, h⟩ := x_gd h
  cases h
  exact x_ri d_QU_isAsked_12 rfl (x_b1_ok g_12).1
def F_QU_isAsked (p : Nat)  (m : x_m) : Option (Int32 × x_m) := (if (m.1 p 0) ≤ 0 then B_QU_isAsked_12 p 0 m else B_QU_isAsked_12 p 1 m)
theorem c_QU_isAsked {G : x_G} {ex : Bool} {r : Int32 × x_m} {p : Nat} (hp : x_QB p)  {m : x_m} (h : F_QU_isAsked p m = some r) : x_R G M_QU_isAsked (x_rd 0) ex [.ref p] x_np (x_hp m) (x_pi r) := by
  unfold F_QU_isAsked at h
  show x_W G M_QU_isAsked (x_rd 0) (x_Q G (x_rd 0) ex (x_pi r)) ex x_np (x_hp m) 0 0 [(0, .ref p)] [] 0
  refine x_aload_n d_QU_isAsked_0 rfl rfl ?_
  refine x_gI d_QU_isAsked_1 (f_QU_34 rfl) (sh_QU hp) (hp_QU hp) rfl ?_
  refine x_if_le (tgt := 11) d_QU_isAsked_4 (by decide) (fun c_ => ?_) (fun c_ => ?_)
  · replace h := x_it h c_
    refine x_iconst (v := 0) d_QU_isAsked_11 (by decide) ?_
    refine x_sbk [] (lv2 := []) rfl ?_; exact b_QU_isAsked_12 hp h
  · replace h := x_ie h c_
    refine x_iconst (v := 1) d_QU_isAsked_7 (by decide) ?_
    refine x_goto (tgt := 12) d_QU_isAsked_8 (by decide) ?_
    refine x_sbk [] (lv2 := []) rfl ?_; exact b_QU_isAsked_12 hp h
