/-! the law from its entry -/
theorem tl_OUT : x_t 424 = .inl (3, 1, .inr (.inl (fun _ => 0))) := (x_hp_l sa_OUT).trans rfl
theorem x_tlt {n k : Nat} {o : va_E} (h : k < n) : va_up x_t n o k = x_t k := va_up_ne _ _ (Nat.ne_of_lt h)
theorem x_law0 {G : x_G} {h : x_h} {r : Int32 × x_m} {L : Nat} {xs : Nat → Int32} (hX : va_X G.2.2.2.1.2 L xs (x_s0 G) (x_s0 G).heap) (hC : x_C G 39 = G.2.2.2.1.2) (hF : B_LW_law_23 L xs 600 0 x_m0 = some r) : x_W G M_LW_law room_1 (x_Q G room_1 false (x_pi r)) true 0 h 0 0 [(0, .ref (x_N + 39))] [] 0 := by
  refine x_newO (ci := 0) (fs := [.null, .null, .null, .null, .null]) d_LW_law_0 rfl wu_QR tb_QR w_26 w_27 w_1 (fr_QR G) (by unfold x_N; omega) (Nat.le_of_ble_eq_true rfl) (Nat.le_of_ble_eq_true rfl) ?_
  refine x_dup d_LW_law_3 rfl ?_
  obtain ⟨k1, k2, k3, k4, k5, k6⟩ := ki_QR_init
  refine x_callI (As := []) (st := [.ref 0]) d_LW_law_4 (c_QR_init (h := va_up h 0 (.inr (0, [.null, .null, .null, .null, .null]))) (by rw [va_up_self])) k1 k2 k3 w_28 k4 k5 k6 ⟨Nat.le_of_ble_eq_true rfl, Nat.le_of_ble_eq_true rfl⟩ (Nat.le_of_ble_eq_true rfl) (Nat.le_of_ble_eq_true rfl) (Nat.le_of_ble_eq_true rfl) (Nat.le_of_ble_eq_true rfl) rfl ?_ (by rintro Y n' h' ⟨g1, -, -⟩; cases g1)
  rintro v n' h' ⟨g1, rfl, g3⟩
  cases g1
  refine x_cong (h' := x_t) (fun k hk => (g3 k hk).trans (if_pos (Nat.zero_le k))) ?_
  refine x_astore_n (lv2 := [(0, .ref (x_N + 39)), (1, .ref 0)]) d_LW_law_7 rfl (by decide) rfl ?_
  refine x_newO (ci := 11) (fs := [.null, .int 0, .int 0, .null, .int 0, .int 0, .int 0, .int 0, .int 0, .int 0, .int 0, .int 0, .int 0, .int 0, .null, .null, .null, .null, .int 0, .null, .null, .null, .null, .int 0, .int 0, .int 0, .null]) d_LW_law_8 rfl wu_MD tb_MD w_1053 w_1054 w_14 (fr_MD G) (by unfold x_N; omega) (Nat.le_of_ble_eq_true rfl) (Nat.le_of_ble_eq_true rfl) ?_
  refine x_dup d_LW_law_11 rfl ?_
  obtain ⟨k1, k2, k3, k4, k5, k6⟩ := ki_MD_init
  refine x_callI (As := []) (st := [.ref 387]) d_LW_law_12 (c_MD_init (h := va_up x_t 387 _) (by rw [va_up_self])) k1 k2 k3 w_1055 k4 k5 k6 ⟨Nat.le_of_ble_eq_true rfl, Nat.le_of_ble_eq_true rfl⟩ (Nat.le_of_ble_eq_true rfl) (Nat.le_of_ble_eq_true rfl) (Nat.le_of_ble_eq_true rfl) (Nat.le_of_ble_eq_true rfl) rfl ?_ (by rintro Y n' h' ⟨g1, -, -⟩; cases g1)
  rintro v n' h' ⟨g1, rfl, g3⟩
  cases g1
  refine x_cong (h' := x_t) (fun k hk => (g3 k hk).trans (by
    by_cases e : 387 ≤ k
    · rw [if_pos e]
    · rw [if_neg e, x_tlt (by omega)])) ?_
  refine x_astore_n (lv2 := [(0, .ref (x_N + 39)), (1, .ref 0), (2, .ref 387)]) d_LW_law_15 rfl (by decide) rfl ?_
  refine x_iconst (v := 1) d_LW_law_16 (by decide) ?_
  refine x_newA (t := 3) (N := 1) (a0 := (1, .inr (.inl (fun _ => 0)))) d_LW_law_17 rfl w_1515 (by decide +kernel) (by decide +kernel) (by decide +kernel) (fun _ => rfl) (by unfold x_N; omega) (Nat.le_of_ble_eq_true rfl) (Nat.le_of_ble_eq_true rfl) ?_
  refine x_cong (h' := x_t) (fun k hk => by
    by_cases e : k = 424
    · subst e; rw [va_up_self, tl_OUT]
    · rw [va_up_ne _ _ e]) ?_
  refine x_astore_n (lv2 := [(0, .ref (x_N + 39)), (1, .ref 0), (2, .ref 387), (3, .ref 424)]) d_LW_law_19 rfl (by decide) rfl ?_
  refine x_iconst (v := 0) d_LW_law_20 (by decide) ?_
  refine x_istore (lv2 := [(0, .ref (x_N + 39)), (1, .ref 0), (2, .ref 387), (3, .ref 424), (4, .int 0)]) d_LW_law_21 (by decide) rfl ?_
  exact x_exf (b_LW_law_23 hX hC 600 425 257071 0 x_m0 (by omega) (by omega) hF)
