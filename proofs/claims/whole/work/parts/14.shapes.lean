def x_DM (p : Nat) : Prop := ∃ d, d < 8 ∧ p = 9 + 13 * d
def x_QB (p : Nat) : Prop := p = 115 ∨ p = 251
def x_CN (p : Nat) : Prop := p = 121 ∨ p = 257
def x_CP (p : Nat) : Prop := ∃ b i, x_QB b ∧ i < 60 ∧ p = b + 16 + 2 * i
def x_MQ (p : Nat) : Prop := p = 395 ∨ p = 409
def x_qb (p : Nat) : Bool := decide (p = 115) || decide (p = 251)
def x_mq (p : Nat) : Bool := decide (p = 395) || decide (p = 409)
theorem x_qb_ok {p : Nat} (h : x_qb p = true) : x_QB p := by simpa [x_qb, x_QB] using h
theorem x_mq_ok {p : Nat} (h : x_mq p = true) : x_MQ p := by simpa [x_mq, x_MQ] using h
theorem x_DM_of {i : Nat} (h : i < 8) : x_DM (9 + 13 * i) := ⟨i, h, rfl⟩
theorem x_CN_of {b : Nat} (h : x_QB b) : x_CN (b + 6) := by rcases h with rfl | rfl; exact Or.inl rfl; exact Or.inr rfl
theorem x_CP_of {p i : Nat} (h : x_CN p) (hi : i < 60) : x_CP (p + 10 + 2 * i) := by rcases h with rfl | rfl; exact ⟨115, i, Or.inl rfl, hi, by omega⟩; exact ⟨251, i, Or.inr rfl, hi, by omega⟩
theorem sh_QR : x_shape 0 = .inl (0, [.inl (1), .inl (3), .inl (4), .inl (113), .inl (114)]) := rfl
theorem hp_QR : 0 < x_np := by decide
theorem sh_TX : x_shape 1 = .inl (1, [.inl (2), .inr false]) := rfl
theorem hp_TX : 1 < x_np := by decide
theorem sh_LX : x_shape 3 = .inl (2, [.inl (1), .inr true, .inr false, .inr false, .inr false, .inr false, .inr false, .inr false, .inr false]) := rfl
theorem hp_LX : 3 < x_np := by decide
theorem sh_CT : x_shape 4 = .inl (3, [.inl (5), .inl (8), .inr false, .inr false, .inr false]) := rfl
theorem hp_CT : 4 < x_np := by decide
theorem sh_NM : x_shape 5 = .inl (4, [.inl (6), .inl (7)]) := rfl
theorem hp_NM : 5 < x_np := by decide
theorem sh_CG : x_shape 113 = .inl (6, [.inl (3), .inl (4), .inl (5)]) := rfl
theorem hp_CG : 113 < x_np := by decide
theorem sh_QG : x_shape 114 = .inl (7, [.inl (3), .inl (4), .inl (5), .inr true, .inr true]) := rfl
theorem hp_QG : 114 < x_np := by decide
theorem sh_MD : x_shape 387 = .inl (11, [.inl (x_N + 37), .inr false, .inr false, .inl (388), .inr false, .inr false, .inr false, .inr false, .inr false, .inr false, .inr false, .inr false, .inr false, .inr false, .inl (389), .inl (390), .inl (391), .inl (392), .inr false, .inl (393), .inl (394), .inr true, .inr true, .inr false, .inr false, .inr false, .inl (423)]) := rfl
theorem hp_MD : 387 < x_np := by decide
theorem sa_TX_bytes : x_shape 2 = .inr (.inl (1, 65536)) := rfl
theorem ha_TX_bytes : 2 < x_np := by decide
theorem sa_NM_letters : x_shape 6 = .inr (.inl (1, 1920)) := rfl
theorem ha_NM_letters : 6 < x_np := by decide
theorem sa_NM_lengths : x_shape 7 = .inr (.inl (0, 48)) := rfl
theorem ha_NM_lengths : 7 < x_np := by decide
theorem sa_MD_text : x_shape 388 = .inr (.inl (1, 65536)) := rfl
theorem ha_MD_text : 388 < x_np := by decide
theorem sa_MD_levels : x_shape 389 = .inr (.inl (0, 8)) := rfl
theorem ha_MD_levels : 389 < x_np := by decide
theorem sa_MD_members : x_shape 390 = .inr (.inl (0, 8)) := rfl
theorem ha_MD_members : 390 < x_np := by decide
theorem sa_MD_values : x_shape 391 = .inr (.inl (0, 32000)) := rfl
theorem ha_MD_values : 391 < x_np := by decide
theorem sa_MD_picked : x_shape 392 = .inr (.inl (0, 8)) := rfl
theorem ha_MD_picked : 392 < x_np := by decide
theorem sa_MD_letters : x_shape 393 = .inr (.inl (1, 1920)) := rfl
theorem ha_MD_letters : 393 < x_np := by decide
theorem sa_MD_lengths : x_shape 394 = .inr (.inl (0, 48)) := rfl
theorem ha_MD_lengths : 394 < x_np := by decide
theorem sa_MD_pile : x_shape 423 = .inr (.inl (2, 64)) := rfl
theorem ha_MD_pile : 423 < x_np := by decide
theorem sa_CT_dimensions : x_shape 8 = .inr (.inr (.inr (4, 8, fun i => if i < 8 then some (9 + 13 * i) else none))) := rfl
theorem ha_CT_dimensions : 8 < x_np := by decide
theorem sa_OUT : x_shape 424 = .inr (.inr (.inl (3, 1))) := rfl
theorem ha_OUT : 424 < x_np := by decide
theorem sh_DM {p : Nat} (h : x_DM p) : x_shape (p) = .inl (5, [.inr false, .inr false, .inr false, .inl (p + 1), .inl (p + 6), .inl (p + 7), .inl (p + 12)]) := by
  obtain ⟨d, hd, rfl⟩ := h
  exact match d, hd with
    | 0, _ => rfl
    | 1, _ => rfl
    | 2, _ => rfl
    | 3, _ => rfl
    | 4, _ => rfl
    | 5, _ => rfl
    | 6, _ => rfl
    | 7, _ => rfl
theorem sa_DM_values {p : Nat} (h : x_DM p) : x_shape (p + 1) = .inr (.inr (.inr (6, 4, fun i => if i < 4 then some (p + 2 + i) else none))) := by
  obtain ⟨d, hd, rfl⟩ := h
  exact match d, hd with
    | 0, _ => rfl
    | 1, _ => rfl
    | 2, _ => rfl
    | 3, _ => rfl
    | 4, _ => rfl
    | 5, _ => rfl
    | 6, _ => rfl
    | 7, _ => rfl
theorem sa_DM_sorted {p : Nat} (h : x_DM p) : x_shape (p + 7) = .inr (.inr (.inr (6, 4, fun i => if i < 4 then some (p + 8 + i) else none))) := by
  obtain ⟨d, hd, rfl⟩ := h
  exact match d, hd with
    | 0, _ => rfl
    | 1, _ => rfl
    | 2, _ => rfl
    | 3, _ => rfl
    | 4, _ => rfl
    | 5, _ => rfl
    | 6, _ => rfl
    | 7, _ => rfl
theorem sa_DM_rows {p : Nat} (h : x_DM p) : x_shape (p + 6) = .inr (.inl (0, 1000)) := by
  obtain ⟨d, hd, rfl⟩ := h
  exact match d, hd with
    | 0, _ => rfl
    | 1, _ => rfl
    | 2, _ => rfl
    | 3, _ => rfl
    | 4, _ => rfl
    | 5, _ => rfl
    | 6, _ => rfl
    | 7, _ => rfl
theorem sa_DM_sortedCounts {p : Nat} (h : x_DM p) : x_shape (p + 12) = .inr (.inl (0, 4)) := by
  obtain ⟨d, hd, rfl⟩ := h
  exact match d, hd with
    | 0, _ => rfl
    | 1, _ => rfl
    | 2, _ => rfl
    | 3, _ => rfl
    | 4, _ => rfl
    | 5, _ => rfl
    | 6, _ => rfl
    | 7, _ => rfl
theorem sa_DM_vrow {p j : Nat} (h : x_DM p) (hj : j < 4) : x_shape (p + 2 + j) = .inr (.inl (0, 1000)) := by
  obtain ⟨d, hd, rfl⟩ := h
  exact match d, hd, j, hj with
    | 0, _, 0, _ => rfl
    | 0, _, 1, _ => rfl
    | 0, _, 2, _ => rfl
    | 0, _, 3, _ => rfl
    | 1, _, 0, _ => rfl
    | 1, _, 1, _ => rfl
    | 1, _, 2, _ => rfl
    | 1, _, 3, _ => rfl
    | 2, _, 0, _ => rfl
    | 2, _, 1, _ => rfl
    | 2, _, 2, _ => rfl
    | 2, _, 3, _ => rfl
    | 3, _, 0, _ => rfl
    | 3, _, 1, _ => rfl
    | 3, _, 2, _ => rfl
    | 3, _, 3, _ => rfl
    | 4, _, 0, _ => rfl
    | 4, _, 1, _ => rfl
    | 4, _, 2, _ => rfl
    | 4, _, 3, _ => rfl
    | 5, _, 0, _ => rfl
    | 5, _, 1, _ => rfl
    | 5, _, 2, _ => rfl
    | 5, _, 3, _ => rfl
    | 6, _, 0, _ => rfl
    | 6, _, 1, _ => rfl
    | 6, _, 2, _ => rfl
    | 6, _, 3, _ => rfl
    | 7, _, 0, _ => rfl
    | 7, _, 1, _ => rfl
    | 7, _, 2, _ => rfl
    | 7, _, 3, _ => rfl
theorem sa_DM_srow {p j : Nat} (h : x_DM p) (hj : j < 4) : x_shape (p + 8 + j) = .inr (.inl (0, 1000)) := by
  obtain ⟨d, hd, rfl⟩ := h
  exact match d, hd, j, hj with
    | 0, _, 0, _ => rfl
    | 0, _, 1, _ => rfl
    | 0, _, 2, _ => rfl
    | 0, _, 3, _ => rfl
    | 1, _, 0, _ => rfl
    | 1, _, 1, _ => rfl
    | 1, _, 2, _ => rfl
    | 1, _, 3, _ => rfl
    | 2, _, 0, _ => rfl
    | 2, _, 1, _ => rfl
    | 2, _, 2, _ => rfl
    | 2, _, 3, _ => rfl
    | 3, _, 0, _ => rfl
    | 3, _, 1, _ => rfl
    | 3, _, 2, _ => rfl
    | 3, _, 3, _ => rfl
    | 4, _, 0, _ => rfl
    | 4, _, 1, _ => rfl
    | 4, _, 2, _ => rfl
    | 4, _, 3, _ => rfl
    | 5, _, 0, _ => rfl
    | 5, _, 1, _ => rfl
    | 5, _, 2, _ => rfl
    | 5, _, 3, _ => rfl
    | 6, _, 0, _ => rfl
    | 6, _, 1, _ => rfl
    | 6, _, 2, _ => rfl
    | 6, _, 3, _ => rfl
    | 7, _, 0, _ => rfl
    | 7, _, 1, _ => rfl
    | 7, _, 2, _ => rfl
    | 7, _, 3, _ => rfl
theorem x_DM_lt {p : Nat} (h : x_DM p) : p + 12 < x_np := by obtain ⟨d, hd, rfl⟩ := h; show _ < 425; omega
theorem hp_DM {p : Nat} (h : x_DM p) : p < x_np := Nat.lt_of_le_of_lt (Nat.le_add_right p 12) (x_DM_lt h)
theorem ha_DM_values {p : Nat} (h : x_DM p) : p + 1 < x_np := by have h2 : p + 12 < 425 := x_DM_lt h; show _ < 425; omega
theorem ha_DM_rows {p : Nat} (h : x_DM p) : p + 6 < x_np := by have h2 : p + 12 < 425 := x_DM_lt h; show _ < 425; omega
theorem ha_DM_sorted {p : Nat} (h : x_DM p) : p + 7 < x_np := by have h2 : p + 12 < 425 := x_DM_lt h; show _ < 425; omega
theorem ha_DM_sortedCounts {p : Nat} (h : x_DM p) : p + 12 < x_np := by have h2 : p + 12 < 425 := x_DM_lt h; show _ < 425; omega
theorem ha_DM_vrow {p j : Nat} (h : x_DM p) (hj : j < 4) : p + 2 + j < x_np := by have h2 : p + 12 < 425 := x_DM_lt h; show _ < 425; omega
theorem ha_DM_srow {p j : Nat} (h : x_DM p) (hj : j < 4) : p + 8 + j < x_np := by have h2 : p + 12 < 425 := x_DM_lt h; show _ < 425; omega
theorem sh_QU {p : Nat} (h : x_QB p) : x_shape (p) = .inl (8, [.inr false, .inl (p + 1), .inl (p + 2), .inl (p + 3), .inr false, .inl (p + 4), .inr false, .inl (p + 5), .inl (p + 6)]) := by
  rcases h with rfl | rfl
  · rfl
  · rfl
theorem hp_QU {p : Nat} (h : x_QB p) : p < x_np := by
  rcases h with rfl | rfl <;> decide
theorem sa_QU_itemTypes {p : Nat} (h : x_QB p) : x_shape (p + 1) = .inr (.inl (0, 24)) := by
  rcases h with rfl | rfl
  · rfl
  · rfl
theorem ha_QU_itemTypes {p : Nat} (h : x_QB p) : p + 1 < x_np := by
  rcases h with rfl | rfl <;> decide
theorem sa_QU_itemTargets {p : Nat} (h : x_QB p) : x_shape (p + 2) = .inr (.inl (0, 24)) := by
  rcases h with rfl | rfl
  · rfl
  · rfl
theorem ha_QU_itemTargets {p : Nat} (h : x_QB p) : p + 2 < x_np := by
  rcases h with rfl | rfl <;> decide
theorem sa_QU_itemPlaces {p : Nat} (h : x_QB p) : x_shape (p + 3) = .inr (.inl (0, 24)) := by
  rcases h with rfl | rfl
  · rfl
  · rfl
theorem ha_QU_itemPlaces {p : Nat} (h : x_QB p) : p + 3 < x_np := by
  rcases h with rfl | rfl <;> decide
theorem sa_QU_columns {p : Nat} (h : x_QB p) : x_shape (p + 4) = .inr (.inl (0, 8)) := by
  rcases h with rfl | rfl
  · rfl
  · rfl
theorem ha_QU_columns {p : Nat} (h : x_QB p) : p + 4 < x_np := by
  rcases h with rfl | rfl <;> decide
theorem sa_QU_sets {p : Nat} (h : x_QB p) : x_shape (p + 5) = .inr (.inl (0, 32)) := by
  rcases h with rfl | rfl
  · rfl
  · rfl
theorem ha_QU_sets {p : Nat} (h : x_QB p) : p + 5 < x_np := by
  rcases h with rfl | rfl <;> decide
theorem sh_CN {p : Nat} (h : x_CN p) : x_shape (p) = .inl (9, [.inr false, .inr false, .inl (p + 1), .inr false, .inl (p + 2), .inl (p + 3), .inl (p + 4), .inl (p + 5), .inl (p + 6), .inl (p + 7), .inl (p + 8), .inl (p + 9)]) := by
  rcases h with rfl | rfl
  · rfl
  · rfl
theorem hp_CN {p : Nat} (h : x_CN p) : p < x_np := by
  rcases h with rfl | rfl <;> decide
theorem sa_CN_comparisons {p : Nat} (h : x_CN p) : x_shape (p + 1) = .inr (.inr (.inr (5, 60, fun i => if i < 60 then some (p + 10 + 2 * i) else none))) := by
  rcases h with rfl | rfl
  · rfl
  · rfl
theorem ha_CN_comparisons {p : Nat} (h : x_CN p) : p + 1 < x_np := by
  rcases h with rfl | rfl <;> decide
theorem sa_CN_lefts {p : Nat} (h : x_CN p) : x_shape (p + 2) = .inr (.inl (0, 59)) := by
  rcases h with rfl | rfl
  · rfl
  · rfl
theorem ha_CN_lefts {p : Nat} (h : x_CN p) : p + 2 < x_np := by
  rcases h with rfl | rfl <;> decide
theorem sa_CN_rights {p : Nat} (h : x_CN p) : x_shape (p + 3) = .inr (.inl (0, 59)) := by
  rcases h with rfl | rfl
  · rfl
  · rfl
theorem ha_CN_rights {p : Nat} (h : x_CN p) : p + 3 < x_np := by
  rcases h with rfl | rfl <;> decide
theorem sa_CN_isAnd {p : Nat} (h : x_CN p) : x_shape (p + 4) = .inr (.inl (2, 59)) := by
  rcases h with rfl | rfl
  · rfl
  · rfl
theorem ha_CN_isAnd {p : Nat} (h : x_CN p) : p + 4 < x_np := by
  rcases h with rfl | rfl <;> decide
theorem sa_CN_isNegated {p : Nat} (h : x_CN p) : x_shape (p + 5) = .inr (.inl (2, 119)) := by
  rcases h with rfl | rfl
  · rfl
  · rfl
theorem ha_CN_isNegated {p : Nat} (h : x_CN p) : p + 5 < x_np := by
  rcases h with rfl | rfl <;> decide
theorem sa_CN_truths {p : Nat} (h : x_CN p) : x_shape (p + 6) = .inr (.inl (2, 119)) := by
  rcases h with rfl | rfl
  · rfl
  · rfl
theorem ha_CN_truths {p : Nat} (h : x_CN p) : p + 6 < x_np := by
  rcases h with rfl | rfl <;> decide
theorem sa_CN_beforeOr {p : Nat} (h : x_CN p) : x_shape (p + 7) = .inr (.inl (0, 41)) := by
  rcases h with rfl | rfl
  · rfl
  · rfl
theorem ha_CN_beforeOr {p : Nat} (h : x_CN p) : p + 7 < x_np := by
  rcases h with rfl | rfl <;> decide
theorem sa_CN_beforeAnd {p : Nat} (h : x_CN p) : x_shape (p + 8) = .inr (.inl (0, 41)) := by
  rcases h with rfl | rfl
  · rfl
  · rfl
theorem ha_CN_beforeAnd {p : Nat} (h : x_CN p) : p + 8 < x_np := by
  rcases h with rfl | rfl <;> decide
theorem sa_CN_isNotAhead {p : Nat} (h : x_CN p) : x_shape (p + 9) = .inr (.inl (2, 41)) := by
  rcases h with rfl | rfl
  · rfl
  · rfl
theorem ha_CN_isNotAhead {p : Nat} (h : x_CN p) : p + 9 < x_np := by
  rcases h with rfl | rfl <;> decide
theorem x_CP_at (b i j : Nat) (hb : x_QB b) (hi : i < 60) (hj : j < 2) : x_shape (b + 16 + 2 * i + j) = x_shQ b (2 * i + j + 16) := by
  rcases hb with rfl | rfl
  · unfold x_shape
    rw [if_neg (by omega), if_neg (by omega), if_neg (by omega), if_neg (by omega), if_pos (by omega)]
    exact congrArg (x_shQ 115) (by omega)
  · unfold x_shape
    rw [if_neg (by omega), if_neg (by omega), if_neg (by omega), if_neg (by omega), if_neg (by omega), if_pos (by omega)]
    exact congrArg (x_shQ 251) (by omega)
theorem sh_CP {p : Nat} (h : x_CP p) : x_shape p = .inl (10, [.inr false, .inr false, .inr false, .inr false, .inr false, .inl (p + 1)]) := by
  obtain ⟨b, i, hb, hi, rfl⟩ := h
  have e := x_CP_at b i 0 hb hi (by omega)
  rw [Nat.add_zero, Nat.add_zero] at e
  rw [e]
  show (if 2 * i % 2 = 0 then x_shC (b + 16 + 2 * i) else _) = _
  rw [if_pos (by omega)]; rfl
theorem sa_CP_list {p : Nat} (h : x_CP p) : x_shape (p + 1) = .inr (.inl (0, 40)) := by
  obtain ⟨b, i, hb, hi, rfl⟩ := h
  rw [x_CP_at b i 1 hb hi (by omega)]
  show (if (2 * i + 1) % 2 = 0 then _ else _) = _
  rw [if_neg (by omega)]
theorem x_CP_lt {p : Nat} (h : x_CP p) : p + 1 < x_np := by
  obtain ⟨b, i, hb, hi, rfl⟩ := h
  show _ < 425
  rcases hb with rfl | rfl <;> omega
theorem hp_CP {p : Nat} (h : x_CP p) : p < x_np := Nat.lt_of_succ_lt (x_CP_lt h)
theorem ha_CP_list {p : Nat} (h : x_CP p) : p + 1 < x_np := x_CP_lt h
theorem sh_MQ {p : Nat} (h : x_MQ p) : x_shape (p) = .inl (12, [.inr false, .inl (p + 1), .inl (p + 2), .inl (p + 3), .inr false, .inl (p + 4), .inr false, .inl (p + 5), .inl (p + 6), .inr false, .inl (p + 7), .inr false, .inl (p + 8), .inr false, .inl (p + 9), .inl (p + 10), .inl (p + 11), .inl (p + 12), .inl (p + 13)]) := by
  rcases h with rfl | rfl
  · rfl
  · rfl
theorem hp_MQ {p : Nat} (h : x_MQ p) : p < x_np := by
  rcases h with rfl | rfl <;> decide
theorem sa_MQ_kind {p : Nat} (h : x_MQ p) : x_shape (p + 1) = .inr (.inl (0, 24)) := by
  rcases h with rfl | rfl
  · rfl
  · rfl
theorem ha_MQ_kind {p : Nat} (h : x_MQ p) : p + 1 < x_np := by
  rcases h with rfl | rfl <;> decide
theorem sa_MQ_of {p : Nat} (h : x_MQ p) : x_shape (p + 2) = .inr (.inl (0, 24)) := by
  rcases h with rfl | rfl
  · rfl
  · rfl
theorem ha_MQ_of {p : Nat} (h : x_MQ p) : p + 2 < x_np := by
  rcases h with rfl | rfl <;> decide
theorem sa_MQ_begins {p : Nat} (h : x_MQ p) : x_shape (p + 3) = .inr (.inl (0, 24)) := by
  rcases h with rfl | rfl
  · rfl
  · rfl
theorem ha_MQ_begins {p : Nat} (h : x_MQ p) : p + 3 < x_np := by
  rcases h with rfl | rfl <;> decide
theorem sa_MQ_group {p : Nat} (h : x_MQ p) : x_shape (p + 4) = .inr (.inl (0, 8)) := by
  rcases h with rfl | rfl
  · rfl
  · rfl
theorem ha_MQ_group {p : Nat} (h : x_MQ p) : p + 4 < x_np := by
  rcases h with rfl | rfl <;> decide
theorem sa_MQ_partKind {p : Nat} (h : x_MQ p) : x_shape (p + 5) = .inr (.inl (0, 8)) := by
  rcases h with rfl | rfl
  · rfl
  · rfl
theorem ha_MQ_partKind {p : Nat} (h : x_MQ p) : p + 5 < x_np := by
  rcases h with rfl | rfl <;> decide
theorem sa_MQ_partSize {p : Nat} (h : x_MQ p) : x_shape (p + 6) = .inr (.inl (0, 8)) := by
  rcases h with rfl | rfl
  · rfl
  · rfl
theorem ha_MQ_partSize {p : Nat} (h : x_MQ p) : p + 6 < x_np := by
  rcases h with rfl | rfl <;> decide
theorem sa_MQ_set {p : Nat} (h : x_MQ p) : x_shape (p + 7) = .inr (.inl (0, 32)) := by
  rcases h with rfl | rfl
  · rfl
  · rfl
theorem ha_MQ_set {p : Nat} (h : x_MQ p) : p + 7 < x_np := by
  rcases h with rfl | rfl <;> decide
theorem sa_MQ_sign {p : Nat} (h : x_MQ p) : x_shape (p + 8) = .inr (.inl (0, 2600)) := by
  rcases h with rfl | rfl
  · rfl
  · rfl
theorem ha_MQ_sign {p : Nat} (h : x_MQ p) : p + 8 < x_np := by
  rcases h with rfl | rfl <;> decide
theorem sa_MQ_column {p : Nat} (h : x_MQ p) : x_shape (p + 9) = .inr (.inl (0, 60)) := by
  rcases h with rfl | rfl
  · rfl
  · rfl
theorem ha_MQ_column {p : Nat} (h : x_MQ p) : p + 9 < x_np := by
  rcases h with rfl | rfl <;> decide
theorem sa_MQ_how {p : Nat} (h : x_MQ p) : x_shape (p + 10) = .inr (.inl (0, 60)) := by
  rcases h with rfl | rfl
  · rfl
  · rfl
theorem ha_MQ_how {p : Nat} (h : x_MQ p) : p + 10 < x_np := by
  rcases h with rfl | rfl <;> decide
theorem sa_MQ_first {p : Nat} (h : x_MQ p) : x_shape (p + 11) = .inr (.inl (0, 60)) := by
  rcases h with rfl | rfl
  · rfl
  · rfl
theorem ha_MQ_first {p : Nat} (h : x_MQ p) : p + 11 < x_np := by
  rcases h with rfl | rfl <;> decide
theorem sa_MQ_second {p : Nat} (h : x_MQ p) : x_shape (p + 12) = .inr (.inl (0, 60)) := by
  rcases h with rfl | rfl
  · rfl
  · rfl
theorem ha_MQ_second {p : Nat} (h : x_MQ p) : p + 12 < x_np := by
  rcases h with rfl | rfl <;> decide
theorem sa_MQ_list {p : Nat} (h : x_MQ p) : x_shape (p + 13) = .inr (.inl (0, 2400)) := by
  rcases h with rfl | rfl
  · rfl
  · rfl
theorem ha_MQ_list {p : Nat} (h : x_MQ p) : p + 13 < x_np := by
  rcases h with rfl | rfl <;> decide
theorem f_QR_10 {M : x_M} (h : M.1.cls = "QuestionReader") : x_fl M 10 0 0 R_QR F_QR 5 := ⟨wu_QR, rfl, by decide, by rw [h]; exact w_350⟩
theorem f_QR_21 {M : x_M} (h : M.1.cls = "QuestionReader") : x_fl M 21 0 1 R_QR F_QR 5 := ⟨wu_QR, rfl, by decide, by rw [h]; exact w_351⟩
theorem f_QR_28 {M : x_M} (h : M.1.cls = "QuestionReader") : x_fl M 28 0 2 R_QR F_QR 5 := ⟨wu_QR, rfl, by decide, by rw [h]; exact w_352⟩
theorem f_QR_37 {M : x_M} (h : M.1.cls = "QuestionReader") : x_fl M 37 0 3 R_QR F_QR 5 := ⟨wu_QR, rfl, by decide, by rw [h]; exact w_353⟩
theorem f_QR_44 {M : x_M} (h : M.1.cls = "QuestionReader") : x_fl M 44 0 4 R_QR F_QR 5 := ⟨wu_QR, rfl, by decide, by rw [h]; exact w_354⟩
theorem f_QR_48 {M : x_M} (h : M.1.cls = "QuestionReader") : x_fl M 48 1 1 R_TX F_TX 2 := ⟨wu_TX, rfl, by decide, by rw [h]; exact w_44⟩
theorem f_QR_71 {M : x_M} (h : M.1.cls = "QuestionReader") : x_fl M 71 7 3 R_QG F_QG 5 := ⟨wu_QG, rfl, by decide, by rw [h]; exact w_337⟩
theorem f_QR_83 {M : x_M} (h : M.1.cls = "QuestionReader") : x_fl M 83 2 1 R_LX F_LX 9 := ⟨wu_LX, rfl, by decide, by rw [h]; exact w_66⟩
theorem f_QR_102 {M : x_M} (h : M.1.cls = "QuestionReader") : x_fl M 102 2 5 R_LX F_LX 9 := ⟨wu_LX, rfl, by decide, by rw [h]; exact w_77⟩
theorem f_QR_105 {M : x_M} (h : M.1.cls = "QuestionReader") : x_fl M 105 2 6 R_LX F_LX 9 := ⟨wu_LX, rfl, by decide, by rw [h]; exact w_79⟩
theorem f_QR_111 {M : x_M} (h : M.1.cls = "QuestionReader") : x_fl M 111 3 2 R_CT F_CT 5 := ⟨wu_CT, rfl, by decide, by rw [h]; exact w_172⟩
theorem f_QR_114 {M : x_M} (h : M.1.cls = "QuestionReader") : x_fl M 114 3 3 R_CT F_CT 5 := ⟨wu_CT, rfl, by decide, by rw [h]; exact w_176⟩
theorem f_QR_117 {M : x_M} (h : M.1.cls = "QuestionReader") : x_fl M 117 8 0 R_QU F_QU 9 := ⟨wu_QU, rfl, by decide, by rw [h]; exact w_296⟩
theorem f_QR_120 {M : x_M} (h : M.1.cls = "QuestionReader") : x_fl M 120 8 4 R_QU F_QU 9 := ⟨wu_QU, rfl, by decide, by rw [h]; exact w_303⟩
theorem f_QR_123 {M : x_M} (h : M.1.cls = "QuestionReader") : x_fl M 123 8 6 R_QU F_QU 9 := ⟨wu_QU, rfl, by decide, by rw [h]; exact w_308⟩
theorem f_QR_126 {M : x_M} (h : M.1.cls = "QuestionReader") : x_fl M 126 8 8 R_QU F_QU 9 := ⟨wu_QU, rfl, by decide, by rw [h]; exact w_313⟩
theorem f_QR_130 {M : x_M} (h : M.1.cls = "QuestionReader") : x_fl M 130 9 0 R_CN F_CN 12 := ⟨wu_CN, rfl, by decide, by rw [h]; exact w_256⟩
theorem f_QR_144 {M : x_M} (h : M.1.cls = "QuestionReader") : x_fl M 144 3 1 R_CT F_CT 5 := ⟨wu_CT, rfl, by decide, by rw [h]; exact w_168⟩
theorem f_QR_148 {M : x_M} (h : M.1.cls = "QuestionReader") : x_fl M 148 5 0 R_DM F_DM 7 := ⟨wu_DM, rfl, by decide, by rw [h]; exact w_134⟩
theorem f_QR_153 {M : x_M} (h : M.1.cls = "QuestionReader") : x_fl M 153 5 1 R_DM F_DM 7 := ⟨wu_DM, rfl, by decide, by rw [h]; exact w_138⟩
theorem f_QR_183 {M : x_M} (h : M.1.cls = "QuestionReader") : x_fl M 183 3 0 R_CT F_CT 5 := ⟨wu_CT, rfl, by decide, by rw [h]; exact w_164⟩
theorem f_QR_192 {M : x_M} (h : M.1.cls = "QuestionReader") : x_fl M 192 8 1 R_QU F_QU 9 := ⟨wu_QU, rfl, by decide, by rw [h]; exact w_298⟩
theorem f_QR_196 {M : x_M} (h : M.1.cls = "QuestionReader") : x_fl M 196 8 2 R_QU F_QU 9 := ⟨wu_QU, rfl, by decide, by rw [h]; exact w_300⟩
theorem f_QR_199 {M : x_M} (h : M.1.cls = "QuestionReader") : x_fl M 199 8 5 R_QU F_QU 9 := ⟨wu_QU, rfl, by decide, by rw [h]; exact w_306⟩
theorem f_QR_202 {M : x_M} (h : M.1.cls = "QuestionReader") : x_fl M 202 8 7 R_QU F_QU 9 := ⟨wu_QU, rfl, by decide, by rw [h]; exact w_310⟩
theorem f_QR_205 {M : x_M} (h : M.1.cls = "QuestionReader") : x_fl M 205 5 2 R_DM F_DM 7 := ⟨wu_DM, rfl, by decide, by rw [h]; exact w_141⟩
theorem f_QR_217 {M : x_M} (h : M.1.cls = "QuestionReader") : x_fl M 217 3 4 R_CT F_CT 5 := ⟨wu_CT, rfl, by decide, by rw [h]; exact w_180⟩
theorem f_CT_12 {M : x_M} (h : M.1.cls = "QuestionReader$Catalog") : x_fl M 12 3 0 R_CT F_CT 5 := ⟨wu_CT, rfl, by decide, by rw [h]; exact w_161⟩
theorem f_CT_20 {M : x_M} (h : M.1.cls = "QuestionReader$Catalog") : x_fl M 20 3 1 R_CT F_CT 5 := ⟨wu_CT, rfl, by decide, by rw [h]; exact w_165⟩
theorem f_CT_25 {M : x_M} (h : M.1.cls = "QuestionReader$Catalog") : x_fl M 25 3 2 R_CT F_CT 5 := ⟨wu_CT, rfl, by decide, by rw [h]; exact w_169⟩
theorem f_CT_33 {M : x_M} (h : M.1.cls = "QuestionReader$Catalog") : x_fl M 33 5 0 R_DM F_DM 7 := ⟨wu_DM, rfl, by decide, by rw [h]; exact w_131⟩
theorem f_CT_36 {M : x_M} (h : M.1.cls = "QuestionReader$Catalog") : x_fl M 36 5 1 R_DM F_DM 7 := ⟨wu_DM, rfl, by decide, by rw [h]; exact w_136⟩
theorem f_CT_50 {M : x_M} (h : M.1.cls = "QuestionReader$Catalog") : x_fl M 50 3 3 R_CT F_CT 5 := ⟨wu_CT, rfl, by decide, by rw [h]; exact w_175⟩
theorem f_CT_57 {M : x_M} (h : M.1.cls = "QuestionReader$Catalog") : x_fl M 57 3 4 R_CT F_CT 5 := ⟨wu_CT, rfl, by decide, by rw [h]; exact w_179⟩
theorem f_CT_64 {M : x_M} (h : M.1.cls = "QuestionReader$Catalog") : x_fl M 64 5 2 R_DM F_DM 7 := ⟨wu_DM, rfl, by decide, by rw [h]; exact w_140⟩
theorem f_CG_9 {M : x_M} (h : M.1.cls = "QuestionReader$CatalogGrammar") : x_fl M 9 6 0 R_CG F_CG 3 := ⟨wu_CG, rfl, by decide, by rw [h]; exact w_198⟩
theorem f_CG_15 {M : x_M} (h : M.1.cls = "QuestionReader$CatalogGrammar") : x_fl M 15 6 1 R_CG F_CG 3 := ⟨wu_CG, rfl, by decide, by rw [h]; exact w_199⟩
theorem f_CG_19 {M : x_M} (h : M.1.cls = "QuestionReader$CatalogGrammar") : x_fl M 19 3 0 R_CT F_CT 5 := ⟨wu_CT, rfl, by decide, by rw [h]; exact w_162⟩
theorem f_CG_25 {M : x_M} (h : M.1.cls = "QuestionReader$CatalogGrammar") : x_fl M 25 6 2 R_CG F_CG 3 := ⟨wu_CG, rfl, by decide, by rw [h]; exact w_200⟩
theorem f_CG_26 {M : x_M} (h : M.1.cls = "QuestionReader$CatalogGrammar") : x_fl M 26 2 1 R_LX F_LX 9 := ⟨wu_LX, rfl, by decide, by rw [h]; exact w_64⟩
theorem f_CG_47 {M : x_M} (h : M.1.cls = "QuestionReader$CatalogGrammar") : x_fl M 47 3 4 R_CT F_CT 5 := ⟨wu_CT, rfl, by decide, by rw [h]; exact w_178⟩
theorem f_CG_67 {M : x_M} (h : M.1.cls = "QuestionReader$CatalogGrammar") : x_fl M 67 3 2 R_CT F_CT 5 := ⟨wu_CT, rfl, by decide, by rw [h]; exact w_170⟩
theorem f_CG_95 {M : x_M} (h : M.1.cls = "QuestionReader$CatalogGrammar") : x_fl M 95 3 1 R_CT F_CT 5 := ⟨wu_CT, rfl, by decide, by rw [h]; exact w_166⟩
theorem f_CG_99 {M : x_M} (h : M.1.cls = "QuestionReader$CatalogGrammar") : x_fl M 99 5 0 R_DM F_DM 7 := ⟨wu_DM, rfl, by decide, by rw [h]; exact w_132⟩
theorem f_CG_104 {M : x_M} (h : M.1.cls = "QuestionReader$CatalogGrammar") : x_fl M 104 3 3 R_CT F_CT 5 := ⟨wu_CT, rfl, by decide, by rw [h]; exact w_173⟩
theorem f_CG_138 {M : x_M} (h : M.1.cls = "QuestionReader$CatalogGrammar") : x_fl M 138 5 1 R_DM F_DM 7 := ⟨wu_DM, rfl, by decide, by rw [h]; exact w_137⟩
theorem f_CG_145 {M : x_M} (h : M.1.cls = "QuestionReader$CatalogGrammar") : x_fl M 145 2 2 R_LX F_LX 9 := ⟨wu_LX, rfl, by decide, by rw [h]; exact w_70⟩
theorem f_CG_164 {M : x_M} (h : M.1.cls = "QuestionReader$CatalogGrammar") : x_fl M 164 2 4 R_LX F_LX 9 := ⟨wu_LX, rfl, by decide, by rw [h]; exact w_74⟩
theorem f_CP_9 {M : x_M} (h : M.1.cls = "QuestionReader$Comparison") : x_fl M 9 10 5 R_CP F_CP 6 := ⟨wu_CP, rfl, by decide, by rw [h]; exact w_240⟩
theorem f_CP_13 {M : x_M} (h : M.1.cls = "QuestionReader$Comparison") : x_fl M 13 10 0 R_CP F_CP 6 := ⟨wu_CP, rfl, by decide, by rw [h]; exact w_233⟩
theorem f_CP_17 {M : x_M} (h : M.1.cls = "QuestionReader$Comparison") : x_fl M 17 10 1 R_CP F_CP 6 := ⟨wu_CP, rfl, by decide, by rw [h]; exact w_235⟩
theorem f_CP_21 {M : x_M} (h : M.1.cls = "QuestionReader$Comparison") : x_fl M 21 10 4 R_CP F_CP 6 := ⟨wu_CP, rfl, by decide, by rw [h]; exact w_239⟩
theorem f_CP_24 {M : x_M} (h : M.1.cls = "QuestionReader$Comparison") : x_fl M 24 10 2 R_CP F_CP 6 := ⟨wu_CP, rfl, by decide, by rw [h]; exact w_237⟩
theorem f_CP_27 {M : x_M} (h : M.1.cls = "QuestionReader$Comparison") : x_fl M 27 10 3 R_CP F_CP 6 := ⟨wu_CP, rfl, by decide, by rw [h]; exact w_238⟩
theorem f_CN_13 {M : x_M} (h : M.1.cls = "QuestionReader$Condition") : x_fl M 13 9 2 R_CN F_CN 12 := ⟨wu_CN, rfl, by decide, by rw [h]; exact w_259⟩
theorem f_CN_17 {M : x_M} (h : M.1.cls = "QuestionReader$Condition") : x_fl M 17 9 4 R_CN F_CN 12 := ⟨wu_CN, rfl, by decide, by rw [h]; exact w_261⟩
theorem f_CN_21 {M : x_M} (h : M.1.cls = "QuestionReader$Condition") : x_fl M 21 9 5 R_CN F_CN 12 := ⟨wu_CN, rfl, by decide, by rw [h]; exact w_262⟩
theorem f_CN_24 {M : x_M} (h : M.1.cls = "QuestionReader$Condition") : x_fl M 24 9 6 R_CN F_CN 12 := ⟨wu_CN, rfl, by decide, by rw [h]; exact w_263⟩
theorem f_CN_28 {M : x_M} (h : M.1.cls = "QuestionReader$Condition") : x_fl M 28 9 7 R_CN F_CN 12 := ⟨wu_CN, rfl, by decide, by rw [h]; exact w_264⟩
theorem f_CN_31 {M : x_M} (h : M.1.cls = "QuestionReader$Condition") : x_fl M 31 9 8 R_CN F_CN 12 := ⟨wu_CN, rfl, by decide, by rw [h]; exact w_265⟩
theorem f_CN_34 {M : x_M} (h : M.1.cls = "QuestionReader$Condition") : x_fl M 34 9 9 R_CN F_CN 12 := ⟨wu_CN, rfl, by decide, by rw [h]; exact w_266⟩
theorem f_CN_37 {M : x_M} (h : M.1.cls = "QuestionReader$Condition") : x_fl M 37 9 10 R_CN F_CN 12 := ⟨wu_CN, rfl, by decide, by rw [h]; exact w_267⟩
theorem f_CN_40 {M : x_M} (h : M.1.cls = "QuestionReader$Condition") : x_fl M 40 9 11 R_CN F_CN 12 := ⟨wu_CN, rfl, by decide, by rw [h]; exact w_268⟩
theorem f_CN_44 {M : x_M} (h : M.1.cls = "QuestionReader$Condition") : x_fl M 44 9 0 R_CN F_CN 12 := ⟨wu_CN, rfl, by decide, by rw [h]; exact w_255⟩
theorem f_CN_48 {M : x_M} (h : M.1.cls = "QuestionReader$Condition") : x_fl M 48 9 3 R_CN F_CN 12 := ⟨wu_CN, rfl, by decide, by rw [h]; exact w_260⟩
theorem f_CN_51 {M : x_M} (h : M.1.cls = "QuestionReader$Condition") : x_fl M 51 9 1 R_CN F_CN 12 := ⟨wu_CN, rfl, by decide, by rw [h]; exact w_257⟩
theorem f_CN_65 {M : x_M} (h : M.1.cls = "QuestionReader$Condition") : x_fl M 65 10 0 R_CP F_CP 6 := ⟨wu_CP, rfl, by decide, by rw [h]; exact w_234⟩
theorem f_DM_13 {M : x_M} (h : M.1.cls = "QuestionReader$Dimension") : x_fl M 13 5 3 R_DM F_DM 7 := ⟨wu_DM, rfl, by decide, by rw [h]; exact w_142⟩
theorem f_DM_16 {M : x_M} (h : M.1.cls = "QuestionReader$Dimension") : x_fl M 16 5 4 R_DM F_DM 7 := ⟨wu_DM, rfl, by decide, by rw [h]; exact w_143⟩
theorem f_DM_20 {M : x_M} (h : M.1.cls = "QuestionReader$Dimension") : x_fl M 20 5 5 R_DM F_DM 7 := ⟨wu_DM, rfl, by decide, by rw [h]; exact w_144⟩
theorem f_DM_23 {M : x_M} (h : M.1.cls = "QuestionReader$Dimension") : x_fl M 23 5 6 R_DM F_DM 7 := ⟨wu_DM, rfl, by decide, by rw [h]; exact w_145⟩
theorem f_DM_26 {M : x_M} (h : M.1.cls = "QuestionReader$Dimension") : x_fl M 26 5 0 R_DM F_DM 7 := ⟨wu_DM, rfl, by decide, by rw [h]; exact w_130⟩
theorem f_DM_38 {M : x_M} (h : M.1.cls = "QuestionReader$Dimension") : x_fl M 38 5 1 R_DM F_DM 7 := ⟨wu_DM, rfl, by decide, by rw [h]; exact w_135⟩
theorem f_DM_48 {M : x_M} (h : M.1.cls = "QuestionReader$Dimension") : x_fl M 48 5 2 R_DM F_DM 7 := ⟨wu_DM, rfl, by decide, by rw [h]; exact w_139⟩
theorem f_LX_15 {M : x_M} (h : M.1.cls = "QuestionReader$Lexer") : x_fl M 15 2 1 R_LX F_LX 9 := ⟨wu_LX, rfl, by decide, by rw [h]; exact w_63⟩
theorem f_LX_20 {M : x_M} (h : M.1.cls = "QuestionReader$Lexer") : x_fl M 20 2 6 R_LX F_LX 9 := ⟨wu_LX, rfl, by decide, by rw [h]; exact w_78⟩
theorem f_LX_24 {M : x_M} (h : M.1.cls = "QuestionReader$Lexer") : x_fl M 24 2 0 R_LX F_LX 9 := ⟨wu_LX, rfl, by decide, by rw [h]; exact w_61⟩
theorem f_LX_28 {M : x_M} (h : M.1.cls = "QuestionReader$Lexer") : x_fl M 28 2 3 R_LX F_LX 9 := ⟨wu_LX, rfl, by decide, by rw [h]; exact w_72⟩
theorem f_LX_31 {M : x_M} (h : M.1.cls = "QuestionReader$Lexer") : x_fl M 31 2 5 R_LX F_LX 9 := ⟨wu_LX, rfl, by decide, by rw [h]; exact w_76⟩
theorem f_LX_37 {M : x_M} (h : M.1.cls = "QuestionReader$Lexer") : x_fl M 37 2 2 R_LX F_LX 9 := ⟨wu_LX, rfl, by decide, by rw [h]; exact w_68⟩
theorem f_LX_40 {M : x_M} (h : M.1.cls = "QuestionReader$Lexer") : x_fl M 40 2 7 R_LX F_LX 9 := ⟨wu_LX, rfl, by decide, by rw [h]; exact w_80⟩
theorem f_LX_44 {M : x_M} (h : M.1.cls = "QuestionReader$Lexer") : x_fl M 44 2 8 R_LX F_LX 9 := ⟨wu_LX, rfl, by decide, by rw [h]; exact w_81⟩
theorem f_LX_47 {M : x_M} (h : M.1.cls = "QuestionReader$Lexer") : x_fl M 47 1 1 R_TX F_TX 2 := ⟨wu_TX, rfl, by decide, by rw [h]; exact w_46⟩
theorem f_LX_52 {M : x_M} (h : M.1.cls = "QuestionReader$Lexer") : x_fl M 52 1 0 R_TX F_TX 2 := ⟨wu_TX, rfl, by decide, by rw [h]; exact w_43⟩
theorem f_LX_82 {M : x_M} (h : M.1.cls = "QuestionReader$Lexer") : x_fl M 82 2 4 R_LX F_LX 9 := ⟨wu_LX, rfl, by decide, by rw [h]; exact w_73⟩
theorem f_NM_11 {M : x_M} (h : M.1.cls = "QuestionReader$Names") : x_fl M 11 4 0 R_NM F_NM 2 := ⟨wu_NM, rfl, by decide, by rw [h]; exact w_113⟩
theorem f_NM_15 {M : x_M} (h : M.1.cls = "QuestionReader$Names") : x_fl M 15 4 1 R_NM F_NM 2 := ⟨wu_NM, rfl, by decide, by rw [h]; exact w_114⟩
theorem f_NM_19 {M : x_M} (h : M.1.cls = "QuestionReader$Names") : x_fl M 19 2 3 R_LX F_LX 9 := ⟨wu_LX, rfl, by decide, by rw [h]; exact w_71⟩
theorem f_NM_25 {M : x_M} (h : M.1.cls = "QuestionReader$Names") : x_fl M 25 2 2 R_LX F_LX 9 := ⟨wu_LX, rfl, by decide, by rw [h]; exact w_67⟩
theorem f_NM_28 {M : x_M} (h : M.1.cls = "QuestionReader$Names") : x_fl M 28 2 0 R_LX F_LX 9 := ⟨wu_LX, rfl, by decide, by rw [h]; exact w_62⟩
theorem f_NM_32 {M : x_M} (h : M.1.cls = "QuestionReader$Names") : x_fl M 32 1 0 R_TX F_TX 2 := ⟨wu_TX, rfl, by decide, by rw [h]; exact w_42⟩
theorem f_QU_11 {M : x_M} (h : M.1.cls = "QuestionReader$Question") : x_fl M 11 8 1 R_QU F_QU 9 := ⟨wu_QU, rfl, by decide, by rw [h]; exact w_297⟩
theorem f_QU_15 {M : x_M} (h : M.1.cls = "QuestionReader$Question") : x_fl M 15 8 2 R_QU F_QU 9 := ⟨wu_QU, rfl, by decide, by rw [h]; exact w_299⟩
theorem f_QU_18 {M : x_M} (h : M.1.cls = "QuestionReader$Question") : x_fl M 18 8 3 R_QU F_QU 9 := ⟨wu_QU, rfl, by decide, by rw [h]; exact w_301⟩
theorem f_QU_21 {M : x_M} (h : M.1.cls = "QuestionReader$Question") : x_fl M 21 8 5 R_QU F_QU 9 := ⟨wu_QU, rfl, by decide, by rw [h]; exact w_305⟩
theorem f_QU_24 {M : x_M} (h : M.1.cls = "QuestionReader$Question") : x_fl M 24 8 7 R_QU F_QU 9 := ⟨wu_QU, rfl, by decide, by rw [h]; exact w_309⟩
theorem f_QU_30 {M : x_M} (h : M.1.cls = "QuestionReader$Question") : x_fl M 30 8 8 R_QU F_QU 9 := ⟨wu_QU, rfl, by decide, by rw [h]; exact w_311⟩
theorem f_QU_34 {M : x_M} (h : M.1.cls = "QuestionReader$Question") : x_fl M 34 8 0 R_QU F_QU 9 := ⟨wu_QU, rfl, by decide, by rw [h]; exact w_294⟩
theorem f_QU_38 {M : x_M} (h : M.1.cls = "QuestionReader$Question") : x_fl M 38 8 4 R_QU F_QU 9 := ⟨wu_QU, rfl, by decide, by rw [h]; exact w_302⟩
theorem f_QU_41 {M : x_M} (h : M.1.cls = "QuestionReader$Question") : x_fl M 41 8 6 R_QU F_QU 9 := ⟨wu_QU, rfl, by decide, by rw [h]; exact w_307⟩
theorem f_QG_12 {M : x_M} (h : M.1.cls = "QuestionReader$QuestionGrammar") : x_fl M 12 7 3 R_QG F_QG 5 := ⟨wu_QG, rfl, by decide, by rw [h]; exact w_336⟩
theorem f_QG_18 {M : x_M} (h : M.1.cls = "QuestionReader$QuestionGrammar") : x_fl M 18 7 4 R_QG F_QG 5 := ⟨wu_QG, rfl, by decide, by rw [h]; exact w_338⟩
theorem f_QG_21 {M : x_M} (h : M.1.cls = "QuestionReader$QuestionGrammar") : x_fl M 21 7 0 R_QG F_QG 5 := ⟨wu_QG, rfl, by decide, by rw [h]; exact w_333⟩
theorem f_QG_25 {M : x_M} (h : M.1.cls = "QuestionReader$QuestionGrammar") : x_fl M 25 7 1 R_QG F_QG 5 := ⟨wu_QG, rfl, by decide, by rw [h]; exact w_334⟩
theorem f_QG_29 {M : x_M} (h : M.1.cls = "QuestionReader$QuestionGrammar") : x_fl M 29 3 0 R_CT F_CT 5 := ⟨wu_CT, rfl, by decide, by rw [h]; exact w_163⟩
theorem f_QG_35 {M : x_M} (h : M.1.cls = "QuestionReader$QuestionGrammar") : x_fl M 35 7 2 R_QG F_QG 5 := ⟨wu_QG, rfl, by decide, by rw [h]; exact w_335⟩
theorem f_QG_36 {M : x_M} (h : M.1.cls = "QuestionReader$QuestionGrammar") : x_fl M 36 3 4 R_CT F_CT 5 := ⟨wu_CT, rfl, by decide, by rw [h]; exact w_177⟩
theorem f_QG_53 {M : x_M} (h : M.1.cls = "QuestionReader$QuestionGrammar") : x_fl M 53 2 1 R_LX F_LX 9 := ⟨wu_LX, rfl, by decide, by rw [h]; exact w_65⟩
theorem f_QG_95 {M : x_M} (h : M.1.cls = "QuestionReader$QuestionGrammar") : x_fl M 95 2 2 R_LX F_LX 9 := ⟨wu_LX, rfl, by decide, by rw [h]; exact w_69⟩
theorem f_QG_103 {M : x_M} (h : M.1.cls = "QuestionReader$QuestionGrammar") : x_fl M 103 8 0 R_QU F_QU 9 := ⟨wu_QU, rfl, by decide, by rw [h]; exact w_295⟩
theorem f_QG_132 {M : x_M} (h : M.1.cls = "QuestionReader$QuestionGrammar") : x_fl M 132 3 3 R_CT F_CT 5 := ⟨wu_CT, rfl, by decide, by rw [h]; exact w_174⟩
theorem f_QG_139 {M : x_M} (h : M.1.cls = "QuestionReader$QuestionGrammar") : x_fl M 139 3 2 R_CT F_CT 5 := ⟨wu_CT, rfl, by decide, by rw [h]; exact w_171⟩
theorem f_QG_149 {M : x_M} (h : M.1.cls = "QuestionReader$QuestionGrammar") : x_fl M 149 3 1 R_CT F_CT 5 := ⟨wu_CT, rfl, by decide, by rw [h]; exact w_167⟩
theorem f_QG_153 {M : x_M} (h : M.1.cls = "QuestionReader$QuestionGrammar") : x_fl M 153 5 0 R_DM F_DM 7 := ⟨wu_DM, rfl, by decide, by rw [h]; exact w_133⟩
theorem f_QG_158 {M : x_M} (h : M.1.cls = "QuestionReader$QuestionGrammar") : x_fl M 158 8 8 R_QU F_QU 9 := ⟨wu_QU, rfl, by decide, by rw [h]; exact w_312⟩
theorem f_QG_199 {M : x_M} (h : M.1.cls = "QuestionReader$QuestionGrammar") : x_fl M 199 9 1 R_CN F_CN 12 := ⟨wu_CN, rfl, by decide, by rw [h]; exact w_258⟩
theorem f_QG_220 {M : x_M} (h : M.1.cls = "QuestionReader$QuestionGrammar") : x_fl M 220 10 1 R_CP F_CP 6 := ⟨wu_CP, rfl, by decide, by rw [h]; exact w_236⟩
theorem f_QG_245 {M : x_M} (h : M.1.cls = "QuestionReader$QuestionGrammar") : x_fl M 245 2 4 R_LX F_LX 9 := ⟨wu_LX, rfl, by decide, by rw [h]; exact w_75⟩
theorem f_QG_275 {M : x_M} (h : M.1.cls = "QuestionReader$QuestionGrammar") : x_fl M 275 8 4 R_QU F_QU 9 := ⟨wu_QU, rfl, by decide, by rw [h]; exact w_304⟩
theorem f_TX_10 {M : x_M} (h : M.1.cls = "QuestionReader$Text") : x_fl M 10 1 0 R_TX F_TX 2 := ⟨wu_TX, rfl, by decide, by rw [h]; exact w_41⟩
theorem f_TX_14 {M : x_M} (h : M.1.cls = "QuestionReader$Text") : x_fl M 14 1 1 R_TX F_TX 2 := ⟨wu_TX, rfl, by decide, by rw [h]; exact w_45⟩
theorem f_MD_9 {M : x_M} (h : M.1.cls = "QuestionReaderModel") : x_fl M 9 11 0 R_MD F_MD 27 := ⟨wu_MD, rfl, by decide, by rw [h]; exact w_1138⟩
theorem f_MD_16 {M : x_M} (h : M.1.cls = "QuestionReaderModel") : x_fl M 16 11 3 R_MD F_MD 27 := ⟨wu_MD, rfl, by decide, by rw [h]; exact w_1141⟩
theorem f_MD_20 {M : x_M} (h : M.1.cls = "QuestionReaderModel") : x_fl M 20 11 6 R_MD F_MD 27 := ⟨wu_MD, rfl, by decide, by rw [h]; exact w_1144⟩
theorem f_MD_24 {M : x_M} (h : M.1.cls = "QuestionReaderModel") : x_fl M 24 11 14 R_MD F_MD 27 := ⟨wu_MD, rfl, by decide, by rw [h]; exact w_1152⟩
theorem f_MD_28 {M : x_M} (h : M.1.cls = "QuestionReaderModel") : x_fl M 28 11 15 R_MD F_MD 27 := ⟨wu_MD, rfl, by decide, by rw [h]; exact w_1153⟩
theorem f_MD_31 {M : x_M} (h : M.1.cls = "QuestionReaderModel") : x_fl M 31 11 16 R_MD F_MD 27 := ⟨wu_MD, rfl, by decide, by rw [h]; exact w_1154⟩
theorem f_MD_34 {M : x_M} (h : M.1.cls = "QuestionReaderModel") : x_fl M 34 11 17 R_MD F_MD 27 := ⟨wu_MD, rfl, by decide, by rw [h]; exact w_1155⟩
theorem f_MD_37 {M : x_M} (h : M.1.cls = "QuestionReaderModel") : x_fl M 37 11 19 R_MD F_MD 27 := ⟨wu_MD, rfl, by decide, by rw [h]; exact w_1157⟩
theorem f_MD_40 {M : x_M} (h : M.1.cls = "QuestionReaderModel") : x_fl M 40 11 20 R_MD F_MD 27 := ⟨wu_MD, rfl, by decide, by rw [h]; exact w_1158⟩
theorem f_MD_46 {M : x_M} (h : M.1.cls = "QuestionReaderModel") : x_fl M 46 11 21 R_MD F_MD 27 := ⟨wu_MD, rfl, by decide, by rw [h]; exact w_1159⟩
theorem f_MD_50 {M : x_M} (h : M.1.cls = "QuestionReaderModel") : x_fl M 50 11 22 R_MD F_MD 27 := ⟨wu_MD, rfl, by decide, by rw [h]; exact w_1160⟩
theorem f_MD_53 {M : x_M} (h : M.1.cls = "QuestionReaderModel") : x_fl M 53 11 26 R_MD F_MD 27 := ⟨wu_MD, rfl, by decide, by rw [h]; exact w_1164⟩
theorem f_MD_57 {M : x_M} (h : M.1.cls = "QuestionReaderModel") : x_fl M 57 11 1 R_MD F_MD 27 := ⟨wu_MD, rfl, by decide, by rw [h]; exact w_1139⟩
theorem f_MD_60 {M : x_M} (h : M.1.cls = "QuestionReaderModel") : x_fl M 60 11 4 R_MD F_MD 27 := ⟨wu_MD, rfl, by decide, by rw [h]; exact w_1142⟩
theorem f_MD_67 {M : x_M} (h : M.1.cls = "QuestionReaderModel") : x_fl M 67 11 5 R_MD F_MD 27 := ⟨wu_MD, rfl, by decide, by rw [h]; exact w_1143⟩
theorem f_MD_70 {M : x_M} (h : M.1.cls = "QuestionReaderModel") : x_fl M 70 11 7 R_MD F_MD 27 := ⟨wu_MD, rfl, by decide, by rw [h]; exact w_1145⟩
theorem f_MD_77 {M : x_M} (h : M.1.cls = "QuestionReaderModel") : x_fl M 77 11 8 R_MD F_MD 27 := ⟨wu_MD, rfl, by decide, by rw [h]; exact w_1146⟩
theorem f_MD_80 {M : x_M} (h : M.1.cls = "QuestionReaderModel") : x_fl M 80 11 10 R_MD F_MD 27 := ⟨wu_MD, rfl, by decide, by rw [h]; exact w_1148⟩
theorem f_MD_83 {M : x_M} (h : M.1.cls = "QuestionReaderModel") : x_fl M 83 11 12 R_MD F_MD 27 := ⟨wu_MD, rfl, by decide, by rw [h]; exact w_1150⟩
theorem f_MD_86 {M : x_M} (h : M.1.cls = "QuestionReaderModel") : x_fl M 86 11 9 R_MD F_MD 27 := ⟨wu_MD, rfl, by decide, by rw [h]; exact w_1147⟩
theorem f_MD_121 {M : x_M} (h : M.1.cls = "QuestionReaderModel") : x_fl M 121 11 11 R_MD F_MD 27 := ⟨wu_MD, rfl, by decide, by rw [h]; exact w_1149⟩
theorem f_MD_150 {M : x_M} (h : M.1.cls = "QuestionReaderModel") : x_fl M 150 11 13 R_MD F_MD 27 := ⟨wu_MD, rfl, by decide, by rw [h]; exact w_1151⟩
theorem f_MD_157 {M : x_M} (h : M.1.cls = "QuestionReaderModel") : x_fl M 157 11 18 R_MD F_MD 27 := ⟨wu_MD, rfl, by decide, by rw [h]; exact w_1156⟩
theorem f_MD_208 {M : x_M} (h : M.1.cls = "QuestionReaderModel") : x_fl M 208 11 24 R_MD F_MD 27 := ⟨wu_MD, rfl, by decide, by rw [h]; exact w_1162⟩
theorem f_MD_258 {M : x_M} (h : M.1.cls = "QuestionReaderModel") : x_fl M 258 11 25 R_MD F_MD 27 := ⟨wu_MD, rfl, by decide, by rw [h]; exact w_1163⟩
theorem f_MD_280 {M : x_M} (h : M.1.cls = "QuestionReaderModel") : x_fl M 280 11 23 R_MD F_MD 27 := ⟨wu_MD, rfl, by decide, by rw [h]; exact w_1161⟩
theorem f_MD_284 {M : x_M} (h : M.1.cls = "QuestionReaderModel") : x_fl M 284 11 2 R_MD F_MD 27 := ⟨wu_MD, rfl, by decide, by rw [h]; exact w_1140⟩
theorem f_MQ_7 {M : x_M} (h : M.1.cls = "QuestionReaderModel$Question") : x_fl M 7 12 1 R_MQ F_MQ 19 := ⟨wu_MQ, rfl, by decide, by rw [h]; exact w_1068⟩
theorem f_MQ_13 {M : x_M} (h : M.1.cls = "QuestionReaderModel$Question") : x_fl M 13 12 2 R_MQ F_MQ 19 := ⟨wu_MQ, rfl, by decide, by rw [h]; exact w_1070⟩
theorem f_MQ_16 {M : x_M} (h : M.1.cls = "QuestionReaderModel$Question") : x_fl M 16 12 3 R_MQ F_MQ 19 := ⟨wu_MQ, rfl, by decide, by rw [h]; exact w_1072⟩
theorem f_MQ_19 {M : x_M} (h : M.1.cls = "QuestionReaderModel$Question") : x_fl M 19 12 5 R_MQ F_MQ 19 := ⟨wu_MQ, rfl, by decide, by rw [h]; exact w_1075⟩
theorem f_MQ_22 {M : x_M} (h : M.1.cls = "QuestionReaderModel$Question") : x_fl M 22 12 7 R_MQ F_MQ 19 := ⟨wu_MQ, rfl, by decide, by rw [h]; exact w_1078⟩
theorem f_MQ_25 {M : x_M} (h : M.1.cls = "QuestionReaderModel$Question") : x_fl M 25 12 8 R_MQ F_MQ 19 := ⟨wu_MQ, rfl, by decide, by rw [h]; exact w_1080⟩
theorem f_MQ_28 {M : x_M} (h : M.1.cls = "QuestionReaderModel$Question") : x_fl M 28 12 10 R_MQ F_MQ 19 := ⟨wu_MQ, rfl, by decide, by rw [h]; exact w_1083⟩
theorem f_MQ_31 {M : x_M} (h : M.1.cls = "QuestionReaderModel$Question") : x_fl M 31 12 12 R_MQ F_MQ 19 := ⟨wu_MQ, rfl, by decide, by rw [h]; exact w_1086⟩
theorem f_MQ_34 {M : x_M} (h : M.1.cls = "QuestionReaderModel$Question") : x_fl M 34 12 14 R_MQ F_MQ 19 := ⟨wu_MQ, rfl, by decide, by rw [h]; exact w_1089⟩
theorem f_MQ_37 {M : x_M} (h : M.1.cls = "QuestionReaderModel$Question") : x_fl M 37 12 15 R_MQ F_MQ 19 := ⟨wu_MQ, rfl, by decide, by rw [h]; exact w_1091⟩
theorem f_MQ_40 {M : x_M} (h : M.1.cls = "QuestionReaderModel$Question") : x_fl M 40 12 16 R_MQ F_MQ 19 := ⟨wu_MQ, rfl, by decide, by rw [h]; exact w_1093⟩
theorem f_MQ_43 {M : x_M} (h : M.1.cls = "QuestionReaderModel$Question") : x_fl M 43 12 17 R_MQ F_MQ 19 := ⟨wu_MQ, rfl, by decide, by rw [h]; exact w_1095⟩
theorem f_MQ_46 {M : x_M} (h : M.1.cls = "QuestionReaderModel$Question") : x_fl M 46 12 18 R_MQ F_MQ 19 := ⟨wu_MQ, rfl, by decide, by rw [h]; exact w_1097⟩
theorem tb_QR : x_tb F_QR 5 t_QR := ⟨by decide +kernel, by decide +kernel⟩
theorem tb_TX : x_tb F_TX 2 t_TX := ⟨by decide +kernel, by decide +kernel⟩
theorem tb_LX : x_tb F_LX 9 t_LX := ⟨by decide +kernel, by decide +kernel⟩
theorem tb_CT : x_tb F_CT 5 t_CT := ⟨by decide +kernel, by decide +kernel⟩
theorem tb_NM : x_tb F_NM 2 t_NM := ⟨by decide +kernel, by decide +kernel⟩
theorem tb_DM : x_tb F_DM 7 t_DM := ⟨by decide +kernel, by decide +kernel⟩
theorem tb_CG : x_tb F_CG 3 t_CG := ⟨by decide +kernel, by decide +kernel⟩
theorem tb_QG : x_tb F_QG 5 t_QG := ⟨by decide +kernel, by decide +kernel⟩
theorem tb_QU : x_tb F_QU 9 t_QU := ⟨by decide +kernel, by decide +kernel⟩
theorem tb_CN : x_tb F_CN 12 t_CN := ⟨by decide +kernel, by decide +kernel⟩
theorem tb_CP : x_tb F_CP 6 t_CP := ⟨by decide +kernel, by decide +kernel⟩
theorem tb_MD : x_tb F_MD 27 t_MD := ⟨by decide +kernel, by decide +kernel⟩
theorem tb_MQ : x_tb F_MQ 19 t_MQ := ⟨by decide +kernel, by decide +kernel⟩
