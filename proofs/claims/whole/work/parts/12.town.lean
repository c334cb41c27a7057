theorem dW_dryWets_0 : decode (xb yyW_dryWets) 0 = .ok (.aload_n 0, 1) := by decide +kernel
theorem dW_dryWets_1 : decode (xb yyW_dryWets) 1 = .ok (.getfield 27, 3) := by decide +kernel
theorem dW_dryWets_4 : decode (xb yyW_dryWets) 4 = .ok (.invokevirtual 45, 3) := by decide +kernel
theorem dW_dryWets_7 : decode (xb yyW_dryWets) 7 = .ok (.iconst 0, 1) := by decide +kernel
theorem dW_dryWets_8 : decode (xb yyW_dryWets) 8 = .ok (.istore_n 1, 1) := by decide +kernel
theorem dW_dryWets_9 : decode (xb yyW_dryWets) 9 = .ok (.iload_n 1, 1) := by decide +kernel
theorem dW_dryWets_10 : decode (xb yyW_dryWets) 10 = .ok (.iconst 5, 1) := by decide +kernel
theorem dW_dryWets_11 : decode (xb yyW_dryWets) 11 = .ok (.if_icmp .ge 25, 3) := by decide +kernel
theorem dW_dryWets_14 : decode (xb yyW_dryWets) 14 = .ok (.aload_n 0, 1) := by decide +kernel
theorem dW_dryWets_15 : decode (xb yyW_dryWets) 15 = .ok (.getfield 27, 3) := by decide +kernel
theorem dW_dryWets_18 : decode (xb yyW_dryWets) 18 = .ok (.aload_n 0, 1) := by decide +kernel
theorem dW_dryWets_19 : decode (xb yyW_dryWets) 19 = .ok (.getfield 27, 3) := by decide +kernel
theorem dW_dryWets_22 : decode (xb yyW_dryWets) 22 = .ok (.invokevirtual 48, 3) := by decide +kernel
theorem dW_dryWets_25 : decode (xb yyW_dryWets) 25 = .ok (.iconst 0, 1) := by decide +kernel
theorem dW_dryWets_26 : decode (xb yyW_dryWets) 26 = .ok (.iconst 0, 1) := by decide +kernel
theorem dW_dryWets_27 : decode (xb yyW_dryWets) 27 = .ok (.invokevirtual 52, 3) := by decide +kernel
theorem dW_dryWets_30 : decode (xb yyW_dryWets) 30 = .ok (.iinc 1 1, 3) := by decide +kernel
theorem dW_dryWets_33 : decode (xb yyW_dryWets) 33 = .ok (.goto (-24), 3) := by decide +kernel
theorem dW_dryWets_36 : decode (xb yyW_dryWets) 36 = .ok (.return_, 1) := by decide +kernel
def fW_dryWets_l9 (t : Nat) : Nat → Int32 → xM → Option (xM)
  | 0, _, _ => none
  | n + 1, v1, m => (if (5 : Int32) ≤ v1 then some m else (fT_newRow (7 * t + 2) m).bind fun r22 => (fT_put (7 * t + 2) r22.1 (0 : Int32) (0 : Int32) r22.2).bind fun r27 => fW_dryWets_l9 t n (v1 + 1) r27)
def fW_dryWets (t : Nat) (m : xM) : Option (xM) := (fT_empty (7 * t + 2) m).bind fun r4 => fW_dryWets_l9 t xfu (0 : Int32) r4
set_option maxRecDepth 100000 in
set_option maxHeartbeats 4000000 in
theorem kW_dryWets_l9 (G : xG) (t : Nat) (ht : t < 4) (z : xM)    : ∀ (n : Nat) (v1 : Int32) (m : xM), xR G yyW_dryWets (emvc z) 9 [(0, .ref (xa G (77 + t))), (1, .int v1)] [] (m, z) (fW_dryWets_l9 t n v1 m) := by
  intro n
  induction n with
  | zero =>
    intro v1 m
    rw [fW_dryWets_l9]
    exact xR_none
  | succ n ih =>
    intro v1 m
    rw [fW_dryWets_l9]
    refine xR_iln 9 1 dW_dryWets_9 rfl rfl ?_
    refine xR_ic 10 (5 : Int32) dW_dryWets_10 (by decide) ?_
    refine xR_icge 11 36 dW_dryWets_11 (by decide) ?_ ?_
    · exact xR_vret 36 rfl rfl dW_dryWets_36
    · refine xR_aln 14 0 dW_dryWets_14 rfl rfl ?_
      refine xR_getf 15 xcf5 2 (77 + t) (by decide) (xk_W ht) (xC_twn ht) (v := .ref (xa G (36 + (7 * t + 2)))) rfl fl_RX6_27 dW_dryWets_15 ?_
      refine xR_aln 18 0 dW_dryWets_18 rfl rfl ?_
      refine xR_getf 19 xcf5 2 (77 + t) (by decide) (xk_W ht) (xC_twn ht) (v := .ref (xa G (36 + (7 * t + 2)))) rfl fl_RX6_27 dW_dryWets_19 ?_
      refine xR_callVic 22 cv_T_newRow ml_RX6_48 ⟨Nat.le_of_ble_eq_true rfl, Nat.le_of_ble_eq_true rfl⟩ xcf3 rfl (36 + (7 * t + 2)) (xk_T (xtw_lt ht (by decide))) (xC_tab (xtw_lt ht (by decide))) [] rfl rfl (Nat.le_of_ble_eq_true rfl) dW_dryWets_22 (kT_newRow G (7 * t + 2) (xtw_lt ht (by decide)) z m) (fun r22 => ?_)
      refine xR_ic 25 (0 : Int32) dW_dryWets_25 (by decide) ?_
      refine xR_ic 26 (0 : Int32) dW_dryWets_26 (by decide) ?_
      refine xR_callVvc 27 cv_T_put ml_RX6_52 ⟨Nat.le_of_ble_eq_true rfl, Nat.le_of_ble_eq_true rfl⟩ xcf3 rfl (36 + (7 * t + 2)) (xk_T (xtw_lt ht (by decide))) (xC_tab (xtw_lt ht (by decide))) [.int r22.1, .int (0 : Int32), .int (0 : Int32)] rfl rfl (Nat.le_of_ble_eq_true rfl) dW_dryWets_27 (kT_put G (7 * t + 2) (xtw_lt ht (by decide)) z r22.2 r22.1 (0 : Int32) (0 : Int32)) (fun r27 => ?_)
      refine xR_iinc 30 1 (v1 + 1) ([(1, .int (v1 + 1)), (0, .ref (xa G (77 + t)))]) dW_dryWets_30 rfl rfl (by decide) rfl ?_
      refine xR_goto 33 9 dW_dryWets_33 (by decide) ?_
      exact xR_sub [1, 0] rfl (ih (v1 + 1) r27)
set_option maxRecDepth 100000 in
set_option maxHeartbeats 4000000 in
theorem kW_dryWets (G : xG) (t : Nat) (ht : t < 4) (z : xM) (m : xM) : ∀ a, fW_dryWets t m = some a → xCt G yyW_dryWets [.ref (xa G (77 + t))] (m, z) (none) (a, z) := by
  refine xR_ct (em := (emvc z)) rfl (Nat.le_of_ble_eq_true rfl) ?_
  show xR G yyW_dryWets _ 0 [(0, .ref (xa G (77 + t)))] [] _ _
  unfold fW_dryWets
  refine xR_aln 0 0 dW_dryWets_0 rfl rfl ?_
  refine xR_getf 1 xcf5 2 (77 + t) (by decide) (xk_W ht) (xC_twn ht) (v := .ref (xa G (36 + (7 * t + 2)))) rfl fl_RX6_27 dW_dryWets_1 ?_
  refine xR_callVvc 4 cv_T_empty ml_RX6_45 ⟨Nat.le_of_ble_eq_true rfl, Nat.le_of_ble_eq_true rfl⟩ xcf3 rfl (36 + (7 * t + 2)) (xk_T (xtw_lt ht (by decide))) (xC_tab (xtw_lt ht (by decide))) [] rfl rfl (Nat.le_of_ble_eq_true rfl) dW_dryWets_4 (kT_empty G (7 * t + 2) (xtw_lt ht (by decide)) z m) (fun r4 => ?_)
  refine xR_ic 7 (0 : Int32) dW_dryWets_7 (by decide) ?_
  refine xR_isn 8 ([(1, .int (0 : Int32)), (0, .ref (xa G (77 + t)))]) dW_dryWets_8 rfl (by decide) rfl ?_
  exact xR_sub [1, 0] rfl (kW_dryWets_l9 G t ht z xfu (0 : Int32) r4)
theorem dW_empty_0 : decode (xb yyW_empty) 0 = .ok (.aload_n 0, 1) := by decide +kernel
theorem dW_empty_1 : decode (xb yyW_empty) 1 = .ok (.getfield 12, 3) := by decide +kernel
theorem dW_empty_4 : decode (xb yyW_empty) 4 = .ok (.invokevirtual 56, 3) := by decide +kernel
theorem dW_empty_7 : decode (xb yyW_empty) 7 = .ok (.aload_n 0, 1) := by decide +kernel
theorem dW_empty_8 : decode (xb yyW_empty) 8 = .ok (.getfield 23, 3) := by decide +kernel
theorem dW_empty_11 : decode (xb yyW_empty) 11 = .ok (.invokevirtual 45, 3) := by decide +kernel
theorem dW_empty_14 : decode (xb yyW_empty) 14 = .ok (.aload_n 0, 1) := by decide +kernel
theorem dW_empty_15 : decode (xb yyW_empty) 15 = .ok (.invokevirtual 42, 3) := by decide +kernel
theorem dW_empty_18 : decode (xb yyW_empty) 18 = .ok (.aload_n 0, 1) := by decide +kernel
theorem dW_empty_19 : decode (xb yyW_empty) 19 = .ok (.getfield 30, 3) := by decide +kernel
theorem dW_empty_22 : decode (xb yyW_empty) 22 = .ok (.invokevirtual 45, 3) := by decide +kernel
theorem dW_empty_25 : decode (xb yyW_empty) 25 = .ok (.aload_n 0, 1) := by decide +kernel
theorem dW_empty_26 : decode (xb yyW_empty) 26 = .ok (.getfield 33, 3) := by decide +kernel
theorem dW_empty_29 : decode (xb yyW_empty) 29 = .ok (.invokevirtual 45, 3) := by decide +kernel
theorem dW_empty_32 : decode (xb yyW_empty) 32 = .ok (.aload_n 0, 1) := by decide +kernel
theorem dW_empty_33 : decode (xb yyW_empty) 33 = .ok (.getfield 36, 3) := by decide +kernel
theorem dW_empty_36 : decode (xb yyW_empty) 36 = .ok (.invokevirtual 45, 3) := by decide +kernel
theorem dW_empty_39 : decode (xb yyW_empty) 39 = .ok (.aload_n 0, 1) := by decide +kernel
theorem dW_empty_40 : decode (xb yyW_empty) 40 = .ok (.getfield 39, 3) := by decide +kernel
theorem dW_empty_43 : decode (xb yyW_empty) 43 = .ok (.invokevirtual 45, 3) := by decide +kernel
theorem dW_empty_46 : decode (xb yyW_empty) 46 = .ok (.return_, 1) := by decide +kernel
def fW_empty (t : Nat) (m : xM) : Option (xM) := (fB_empty t m).bind fun r4 => (fT_empty (7 * t + 1) r4).bind fun r11 => (fW_dryWets t r11).bind fun r15 => (fT_empty (7 * t + 3) r15).bind fun r22 => (fT_empty (7 * t + 4) r22).bind fun r29 => (fT_empty (7 * t + 5) r29).bind fun r36 => (fT_empty (7 * t + 6) r36).bind fun r43 => some r43
set_option maxRecDepth 100000 in
set_option maxHeartbeats 4000000 in
theorem kW_empty (G : xG) (t : Nat) (ht : t < 4) (z : xM) (m : xM) : ∀ a, fW_empty t m = some a → xCt G yyW_empty [.ref (xa G (77 + t))] (m, z) (none) (a, z) := by
  refine xR_ct (em := (emvc z)) rfl (Nat.le_of_ble_eq_true rfl) ?_
  show xR G yyW_empty _ 0 [(0, .ref (xa G (77 + t)))] [] _ _
  unfold fW_empty
  refine xR_aln 0 0 dW_empty_0 rfl rfl ?_
  refine xR_getf 1 xcf5 0 (77 + t) (by decide) (xk_W ht) (xC_twn ht) (v := .ref (xa G (72 + t))) rfl fl_RX6_12 dW_empty_1 ?_
  refine xR_callVvc 4 cv_B_empty ml_RX6_56 ⟨Nat.le_of_ble_eq_true rfl, Nat.le_of_ble_eq_true rfl⟩ xcf0 rfl (72 + t) (xk_B (Nat.lt_of_lt_of_le ht (by decide))) (xC_brd (Nat.lt_of_lt_of_le ht (by decide))) [] rfl rfl (Nat.le_of_ble_eq_true rfl) dW_empty_4 (kB_empty G t (Nat.lt_of_lt_of_le ht (by decide)) z m) (fun r4 => ?_)
  refine xR_aln 7 0 dW_empty_7 rfl rfl ?_
  refine xR_getf 8 xcf5 1 (77 + t) (by decide) (xk_W ht) (xC_twn ht) (v := .ref (xa G (36 + (7 * t + 1)))) rfl fl_RX6_23 dW_empty_8 ?_
  refine xR_callVvc 11 cv_T_empty ml_RX6_45 ⟨Nat.le_of_ble_eq_true rfl, Nat.le_of_ble_eq_true rfl⟩ xcf3 rfl (36 + (7 * t + 1)) (xk_T (xtw_lt ht (by decide))) (xC_tab (xtw_lt ht (by decide))) [] rfl rfl (Nat.le_of_ble_eq_true rfl) dW_empty_11 (kT_empty G (7 * t + 1) (xtw_lt ht (by decide)) z r4) (fun r11 => ?_)
  refine xR_aln 14 0 dW_empty_14 rfl rfl ?_
  refine xR_callVvc 15 cv_W_dryWets ml_RX6_42 ⟨Nat.le_of_ble_eq_true rfl, Nat.le_of_ble_eq_true rfl⟩ xcf5 rfl (77 + t) (xk_W ht) (xC_twn ht) [] rfl rfl (Nat.le_of_ble_eq_true rfl) dW_empty_15 (kW_dryWets G t ht z r11) (fun r15 => ?_)
  refine xR_aln 18 0 dW_empty_18 rfl rfl ?_
  refine xR_getf 19 xcf5 3 (77 + t) (by decide) (xk_W ht) (xC_twn ht) (v := .ref (xa G (36 + (7 * t + 3)))) rfl fl_RX6_30 dW_empty_19 ?_
  refine xR_callVvc 22 cv_T_empty ml_RX6_45 ⟨Nat.le_of_ble_eq_true rfl, Nat.le_of_ble_eq_true rfl⟩ xcf3 rfl (36 + (7 * t + 3)) (xk_T (xtw_lt ht (by decide))) (xC_tab (xtw_lt ht (by decide))) [] rfl rfl (Nat.le_of_ble_eq_true rfl) dW_empty_22 (kT_empty G (7 * t + 3) (xtw_lt ht (by decide)) z r15) (fun r22 => ?_)
  refine xR_aln 25 0 dW_empty_25 rfl rfl ?_
  refine xR_getf 26 xcf5 4 (77 + t) (by decide) (xk_W ht) (xC_twn ht) (v := .ref (xa G (36 + (7 * t + 4)))) rfl fl_RX6_33 dW_empty_26 ?_
  refine xR_callVvc 29 cv_T_empty ml_RX6_45 ⟨Nat.le_of_ble_eq_true rfl, Nat.le_of_ble_eq_true rfl⟩ xcf3 rfl (36 + (7 * t + 4)) (xk_T (xtw_lt ht (by decide))) (xC_tab (xtw_lt ht (by decide))) [] rfl rfl (Nat.le_of_ble_eq_true rfl) dW_empty_29 (kT_empty G (7 * t + 4) (xtw_lt ht (by decide)) z r22) (fun r29 => ?_)
  refine xR_aln 32 0 dW_empty_32 rfl rfl ?_
  refine xR_getf 33 xcf5 5 (77 + t) (by decide) (xk_W ht) (xC_twn ht) (v := .ref (xa G (36 + (7 * t + 5)))) rfl fl_RX6_36 dW_empty_33 ?_
  refine xR_callVvc 36 cv_T_empty ml_RX6_45 ⟨Nat.le_of_ble_eq_true rfl, Nat.le_of_ble_eq_true rfl⟩ xcf3 rfl (36 + (7 * t + 5)) (xk_T (xtw_lt ht (by decide))) (xC_tab (xtw_lt ht (by decide))) [] rfl rfl (Nat.le_of_ble_eq_true rfl) dW_empty_36 (kT_empty G (7 * t + 5) (xtw_lt ht (by decide)) z r29) (fun r36 => ?_)
  refine xR_aln 39 0 dW_empty_39 rfl rfl ?_
  refine xR_getf 40 xcf5 6 (77 + t) (by decide) (xk_W ht) (xC_twn ht) (v := .ref (xa G (36 + (7 * t + 6)))) rfl fl_RX6_39 dW_empty_40 ?_
  refine xR_callVvc 43 cv_T_empty ml_RX6_45 ⟨Nat.le_of_ble_eq_true rfl, Nat.le_of_ble_eq_true rfl⟩ xcf3 rfl (36 + (7 * t + 6)) (xk_T (xtw_lt ht (by decide))) (xC_tab (xtw_lt ht (by decide))) [] rfl rfl (Nat.le_of_ble_eq_true rfl) dW_empty_43 (kT_empty G (7 * t + 6) (xtw_lt ht (by decide)) z r36) (fun r43 => ?_)
  exact xR_vret 46 rfl rfl dW_empty_46
theorem dW_bringInstrument_0 : decode (xb yyW_bringInstrument) 0 = .ok (.aload_n 0, 1) := by decide +kernel
theorem dW_bringInstrument_1 : decode (xb yyW_bringInstrument) 1 = .ok (.getfield 30, 3) := by decide +kernel
theorem dW_bringInstrument_4 : decode (xb yyW_bringInstrument) 4 = .ok (.invokevirtual 48, 3) := by decide +kernel
theorem dW_bringInstrument_7 : decode (xb yyW_bringInstrument) 7 = .ok (.istore_n 2, 1) := by decide +kernel
theorem dW_bringInstrument_8 : decode (xb yyW_bringInstrument) 8 = .ok (.aload_n 0, 1) := by decide +kernel
theorem dW_bringInstrument_9 : decode (xb yyW_bringInstrument) 9 = .ok (.getfield 30, 3) := by decide +kernel
theorem dW_bringInstrument_12 : decode (xb yyW_bringInstrument) 12 = .ok (.iload_n 2, 1) := by decide +kernel
theorem dW_bringInstrument_13 : decode (xb yyW_bringInstrument) 13 = .ok (.iconst 0, 1) := by decide +kernel
theorem dW_bringInstrument_14 : decode (xb yyW_bringInstrument) 14 = .ok (.iload_n 1, 1) := by decide +kernel
theorem dW_bringInstrument_15 : decode (xb yyW_bringInstrument) 15 = .ok (.invokevirtual 52, 3) := by decide +kernel
theorem dW_bringInstrument_18 : decode (xb yyW_bringInstrument) 18 = .ok (.iload_n 2, 1) := by decide +kernel
theorem dW_bringInstrument_19 : decode (xb yyW_bringInstrument) 19 = .ok (.ireturn, 1) := by decide +kernel
def fW_bringInstrument (t : Nat) (v1 : Int32) (m : xM) : Option (Int32 × xM) := (fT_newRow (7 * t + 3) m).bind fun r4 => (fT_put (7 * t + 3) r4.1 (0 : Int32) v1 r4.2).bind fun r15 => some (r4.1, r15)
set_option maxRecDepth 100000 in
set_option maxHeartbeats 4000000 in
theorem kW_bringInstrument (G : xG) (t : Nat) (ht : t < 4) (z : xM) (m : xM) (v1 : Int32) : ∀ a, fW_bringInstrument t v1 m = some a → xCt G yyW_bringInstrument [.ref (xa G (77 + t)), .int v1] (m, z) (some (.int a.1)) (a.2, z) := by
  refine xR_ct (em := (emic z)) rfl (Nat.le_of_ble_eq_true rfl) ?_
  show xR G yyW_bringInstrument _ 0 [(0, .ref (xa G (77 + t))), (1, .int v1)] [] _ _
  unfold fW_bringInstrument
  refine xR_aln 0 0 dW_bringInstrument_0 rfl rfl ?_
  refine xR_getf 1 xcf5 3 (77 + t) (by decide) (xk_W ht) (xC_twn ht) (v := .ref (xa G (36 + (7 * t + 3)))) rfl fl_RX6_30 dW_bringInstrument_1 ?_
  refine xR_callVic 4 cv_T_newRow ml_RX6_48 ⟨Nat.le_of_ble_eq_true rfl, Nat.le_of_ble_eq_true rfl⟩ xcf3 rfl (36 + (7 * t + 3)) (xk_T (xtw_lt ht (by decide))) (xC_tab (xtw_lt ht (by decide))) [] rfl rfl (Nat.le_of_ble_eq_true rfl) dW_bringInstrument_4 (kT_newRow G (7 * t + 3) (xtw_lt ht (by decide)) z m) (fun r4 => ?_)
  refine xR_isn 7 ([(2, .int r4.1), (0, .ref (xa G (77 + t))), (1, .int v1)]) dW_bringInstrument_7 rfl (by decide) rfl ?_
  refine xR_aln 8 1 dW_bringInstrument_8 rfl rfl ?_
  refine xR_getf 9 xcf5 3 (77 + t) (by decide) (xk_W ht) (xC_twn ht) (v := .ref (xa G (36 + (7 * t + 3)))) rfl fl_RX6_30 dW_bringInstrument_9 ?_
  refine xR_iln 12 0 dW_bringInstrument_12 rfl rfl ?_
  refine xR_ic 13 (0 : Int32) dW_bringInstrument_13 (by decide) ?_
  refine xR_iln 14 2 dW_bringInstrument_14 rfl rfl ?_
  refine xR_callVvc 15 cv_T_put ml_RX6_52 ⟨Nat.le_of_ble_eq_true rfl, Nat.le_of_ble_eq_true rfl⟩ xcf3 rfl (36 + (7 * t + 3)) (xk_T (xtw_lt ht (by decide))) (xC_tab (xtw_lt ht (by decide))) [.int r4.1, .int (0 : Int32), .int v1] rfl rfl (Nat.le_of_ble_eq_true rfl) dW_bringInstrument_15 (kT_put G (7 * t + 3) (xtw_lt ht (by decide)) z r4.2 r4.1 (0 : Int32) v1) (fun r15 => ?_)
  refine xR_iln 18 0 dW_bringInstrument_18 rfl rfl ?_
  exact xR_iret 19 rfl rfl dW_bringInstrument_19
theorem dW_passYears_0 : decode (xb yyW_passYears) 0 = .ok (.iconst 0, 1) := by decide +kernel
theorem dW_passYears_1 : decode (xb yyW_passYears) 1 = .ok (.istore_n 2, 1) := by decide +kernel
theorem dW_passYears_2 : decode (xb yyW_passYears) 2 = .ok (.iload_n 2, 1) := by decide +kernel
theorem dW_passYears_3 : decode (xb yyW_passYears) 3 = .ok (.iload_n 1, 1) := by decide +kernel
theorem dW_passYears_4 : decode (xb yyW_passYears) 4 = .ok (.if_icmp .ge 33, 3) := by decide +kernel
theorem dW_passYears_7 : decode (xb yyW_passYears) 7 = .ok (.aload_n 0, 1) := by decide +kernel
theorem dW_passYears_8 : decode (xb yyW_passYears) 8 = .ok (.getfield 12, 3) := by decide +kernel
theorem dW_passYears_11 : decode (xb yyW_passYears) 11 = .ok (.getfield 80, 3) := by decide +kernel
theorem dW_passYears_14 : decode (xb yyW_passYears) 14 = .ok (.sipush 999, 3) := by decide +kernel
theorem dW_passYears_17 : decode (xb yyW_passYears) 17 = .ok (.if_icmp .ge 20, 3) := by decide +kernel
theorem dW_passYears_20 : decode (xb yyW_passYears) 20 = .ok (.aload_n 0, 1) := by decide +kernel
theorem dW_passYears_21 : decode (xb yyW_passYears) 21 = .ok (.getfield 12, 3) := by decide +kernel
theorem dW_passYears_24 : decode (xb yyW_passYears) 24 = .ok (.aload_n 0, 1) := by decide +kernel
theorem dW_passYears_25 : decode (xb yyW_passYears) 25 = .ok (.getfield 27, 3) := by decide +kernel
theorem dW_passYears_28 : decode (xb yyW_passYears) 28 = .ok (.invokevirtual 84, 3) := by decide +kernel
theorem dW_passYears_31 : decode (xb yyW_passYears) 31 = .ok (.iinc 2 1, 3) := by decide +kernel
theorem dW_passYears_34 : decode (xb yyW_passYears) 34 = .ok (.goto (-32), 3) := by decide +kernel
theorem dW_passYears_37 : decode (xb yyW_passYears) 37 = .ok (.return_, 1) := by decide +kernel
def fW_passYears_l2 (t : Nat) : Nat → Int32 → Int32 → xM → Option (xM)
  | 0, _, _, _ => none
  | n + 1, v1, v2, m => (if v1 ≤ v2 then some m else (if (999 : Int32) ≤ (m.1 37 t) then some m else (fB_passYear t (7 * t + 2) m).bind fun r28 => fW_passYears_l2 t n v1 (v2 + 1) r28))
def fW_passYears (t : Nat) (v1 : Int32) (m : xM) : Option (xM) := fW_passYears_l2 t xfu v1 (0 : Int32) m
set_option maxRecDepth 100000 in
set_option maxHeartbeats 4000000 in
theorem kW_passYears_l2 (G : xG) (t : Nat) (ht : t < 4) (z : xM)    : ∀ (n : Nat) (v1 : Int32) (v2 : Int32) (m : xM), xR G yyW_passYears (emvc z) 2 [(0, .ref (xa G (77 + t))), (1, .int v1), (2, .int v2)] [] (m, z) (fW_passYears_l2 t n v1 v2 m) := by
  intro n
  induction n with
  | zero =>
    intro v1 v2 m
    rw [fW_passYears_l2]
    exact xR_none
  | succ n ih =>
    intro v1 v2 m
    rw [fW_passYears_l2]
    refine xR_iln 2 2 dW_passYears_2 rfl rfl ?_
    refine xR_iln 3 1 dW_passYears_3 rfl rfl ?_
    refine xR_icge 4 37 dW_passYears_4 (by decide) ?_ ?_
    · exact xR_vret 37 rfl rfl dW_passYears_37
    · refine xR_aln 7 0 dW_passYears_7 rfl rfl ?_
      refine xR_getf 8 xcf5 0 (77 + t) (by decide) (xk_W ht) (xC_twn ht) (v := .ref (xa G (72 + t))) rfl fl_RX6_12 dW_passYears_8 ?_
      refine xR_getf 11 xcf0 1 (72 + t) (by decide) (xk_B (Nat.lt_of_lt_of_le ht (by decide))) (xC_brd (Nat.lt_of_lt_of_le ht (by decide))) (v := .int (m.1 37 t)) rfl fl_RX6_80 dW_passYears_11 ?_
      refine xR_sp 14 (999 : Int32) dW_passYears_14 (by decide) ?_
      refine xR_icge 17 37 dW_passYears_17 (by decide) ?_ ?_
      · exact xR_vret 37 rfl rfl dW_passYears_37
      · refine xR_aln 20 0 dW_passYears_20 rfl rfl ?_
        refine xR_getf 21 xcf5 0 (77 + t) (by decide) (xk_W ht) (xC_twn ht) (v := .ref (xa G (72 + t))) rfl fl_RX6_12 dW_passYears_21 ?_
        refine xR_aln 24 0 dW_passYears_24 rfl rfl ?_
        refine xR_getf 25 xcf5 2 (77 + t) (by decide) (xk_W ht) (xC_twn ht) (v := .ref (xa G (36 + (7 * t + 2)))) rfl fl_RX6_27 dW_passYears_25 ?_
        refine xR_callVvc 28 cv_B_passYear ml_RX6_84 ⟨Nat.le_of_ble_eq_true rfl, Nat.le_of_ble_eq_true rfl⟩ xcf0 rfl (72 + t) (xk_B (Nat.lt_of_lt_of_le ht (by decide))) (xC_brd (Nat.lt_of_lt_of_le ht (by decide))) [.ref (xa G (36 + (7 * t + 2)))] rfl rfl (Nat.le_of_ble_eq_true rfl) dW_passYears_28 (kB_passYear G t (7 * t + 2) (Nat.lt_of_lt_of_le ht (by decide)) (xtw_lt ht (by decide)) z m) (fun r28 => ?_)
        refine xR_iinc 31 2 (v2 + 1) ([(2, .int (v2 + 1)), (0, .ref (xa G (77 + t))), (1, .int v1)]) dW_passYears_31 rfl rfl (by decide) rfl ?_
        refine xR_goto 34 2 dW_passYears_34 (by decide) ?_
        exact xR_sub [1, 2, 0] rfl (ih v1 (v2 + 1) r28)
set_option maxRecDepth 100000 in
set_option maxHeartbeats 4000000 in
theorem kW_passYears (G : xG) (t : Nat) (ht : t < 4) (z : xM) (m : xM) (v1 : Int32) : ∀ a, fW_passYears t v1 m = some a → xCt G yyW_passYears [.ref (xa G (77 + t)), .int v1] (m, z) (none) (a, z) := by
  refine xR_ct (em := (emvc z)) rfl (Nat.le_of_ble_eq_true rfl) ?_
  show xR G yyW_passYears _ 0 [(0, .ref (xa G (77 + t))), (1, .int v1)] [] _ _
  unfold fW_passYears
  refine xR_ic 0 (0 : Int32) dW_passYears_0 (by decide) ?_
  refine xR_isn 1 ([(2, .int (0 : Int32)), (0, .ref (xa G (77 + t))), (1, .int v1)]) dW_passYears_1 rfl (by decide) rfl ?_
  exact xR_sub [1, 2, 0] rfl (kW_passYears_l2 G t ht z xfu v1 (0 : Int32) m)
theorem dW_become_0 : decode (xb yyW_become) 0 = .ok (.aload_n 0, 1) := by decide +kernel
theorem dW_become_1 : decode (xb yyW_become) 1 = .ok (.getfield 12, 3) := by decide +kernel
theorem dW_become_4 : decode (xb yyW_become) 4 = .ok (.aload_n 1, 1) := by decide +kernel
theorem dW_become_5 : decode (xb yyW_become) 5 = .ok (.getfield 12, 3) := by decide +kernel
theorem dW_become_8 : decode (xb yyW_become) 8 = .ok (.invokevirtual 57, 3) := by decide +kernel
theorem dW_become_11 : decode (xb yyW_become) 11 = .ok (.aload_n 0, 1) := by decide +kernel
theorem dW_become_12 : decode (xb yyW_become) 12 = .ok (.getfield 23, 3) := by decide +kernel
theorem dW_become_15 : decode (xb yyW_become) 15 = .ok (.aload_n 1, 1) := by decide +kernel
theorem dW_become_16 : decode (xb yyW_become) 16 = .ok (.getfield 23, 3) := by decide +kernel
theorem dW_become_19 : decode (xb yyW_become) 19 = .ok (.invokevirtual 61, 3) := by decide +kernel
theorem dW_become_22 : decode (xb yyW_become) 22 = .ok (.aload_n 0, 1) := by decide +kernel
theorem dW_become_23 : decode (xb yyW_become) 23 = .ok (.getfield 27, 3) := by decide +kernel
theorem dW_become_26 : decode (xb yyW_become) 26 = .ok (.aload_n 1, 1) := by decide +kernel
theorem dW_become_27 : decode (xb yyW_become) 27 = .ok (.getfield 27, 3) := by decide +kernel
theorem dW_become_30 : decode (xb yyW_become) 30 = .ok (.invokevirtual 61, 3) := by decide +kernel
theorem dW_become_33 : decode (xb yyW_become) 33 = .ok (.aload_n 0, 1) := by decide +kernel
theorem dW_become_34 : decode (xb yyW_become) 34 = .ok (.getfield 30, 3) := by decide +kernel
theorem dW_become_37 : decode (xb yyW_become) 37 = .ok (.aload_n 1, 1) := by decide +kernel
theorem dW_become_38 : decode (xb yyW_become) 38 = .ok (.getfield 30, 3) := by decide +kernel
theorem dW_become_41 : decode (xb yyW_become) 41 = .ok (.invokevirtual 61, 3) := by decide +kernel
theorem dW_become_44 : decode (xb yyW_become) 44 = .ok (.aload_n 0, 1) := by decide +kernel
theorem dW_become_45 : decode (xb yyW_become) 45 = .ok (.getfield 33, 3) := by decide +kernel
theorem dW_become_48 : decode (xb yyW_become) 48 = .ok (.aload_n 1, 1) := by decide +kernel
theorem dW_become_49 : decode (xb yyW_become) 49 = .ok (.getfield 33, 3) := by decide +kernel
theorem dW_become_52 : decode (xb yyW_become) 52 = .ok (.invokevirtual 61, 3) := by decide +kernel
theorem dW_become_55 : decode (xb yyW_become) 55 = .ok (.aload_n 0, 1) := by decide +kernel
theorem dW_become_56 : decode (xb yyW_become) 56 = .ok (.getfield 36, 3) := by decide +kernel
theorem dW_become_59 : decode (xb yyW_become) 59 = .ok (.aload_n 1, 1) := by decide +kernel
theorem dW_become_60 : decode (xb yyW_become) 60 = .ok (.getfield 36, 3) := by decide +kernel
theorem dW_become_63 : decode (xb yyW_become) 63 = .ok (.invokevirtual 61, 3) := by decide +kernel
theorem dW_become_66 : decode (xb yyW_become) 66 = .ok (.aload_n 0, 1) := by decide +kernel
theorem dW_become_67 : decode (xb yyW_become) 67 = .ok (.getfield 39, 3) := by decide +kernel
theorem dW_become_70 : decode (xb yyW_become) 70 = .ok (.aload_n 1, 1) := by decide +kernel
theorem dW_become_71 : decode (xb yyW_become) 71 = .ok (.getfield 39, 3) := by decide +kernel
theorem dW_become_74 : decode (xb yyW_become) 74 = .ok (.invokevirtual 61, 3) := by decide +kernel
theorem dW_become_77 : decode (xb yyW_become) 77 = .ok (.return_, 1) := by decide +kernel
def fW_become (t : Nat) (t1 : Nat) (m : xM) : Option (xM) := (fB_become t t1 m).bind fun r8 => (fT_become (7 * t + 1) (7 * t1 + 1) r8).bind fun r19 => (fT_become (7 * t + 2) (7 * t1 + 2) r19).bind fun r30 => (fT_become (7 * t + 3) (7 * t1 + 3) r30).bind fun r41 => (fT_become (7 * t + 4) (7 * t1 + 4) r41).bind fun r52 => (fT_become (7 * t + 5) (7 * t1 + 5) r52).bind fun r63 => (fT_become (7 * t + 6) (7 * t1 + 6) r63).bind fun r74 => some r74
set_option maxRecDepth 100000 in
set_option maxHeartbeats 4000000 in
theorem kW_become (G : xG) (t : Nat) (t1 : Nat) (ht : t < 4) (ht1 : t1 < 4) (z : xM) (m : xM) : ∀ a, fW_become t t1 m = some a → xCt G yyW_become [.ref (xa G (77 + t)), .ref (xa G (77 + t1))] (m, z) (none) (a, z) := by
  refine xR_ct (em := (emvc z)) rfl (Nat.le_of_ble_eq_true rfl) ?_
  show xR G yyW_become _ 0 [(0, .ref (xa G (77 + t))), (1, .ref (xa G (77 + t1)))] [] _ _
  unfold fW_become
  refine xR_aln 0 0 dW_become_0 rfl rfl ?_
  refine xR_getf 1 xcf5 0 (77 + t) (by decide) (xk_W ht) (xC_twn ht) (v := .ref (xa G (72 + t))) rfl fl_RX6_12 dW_become_1 ?_
  refine xR_aln 4 1 dW_become_4 rfl rfl ?_
  refine xR_getf 5 xcf5 0 (77 + t1) (by decide) (xk_W ht1) (xC_twn ht1) (v := .ref (xa G (72 + t1))) rfl fl_RX6_12 dW_become_5 ?_
  refine xR_callVvc 8 cv_B_become ml_RX6_57 ⟨Nat.le_of_ble_eq_true rfl, Nat.le_of_ble_eq_true rfl⟩ xcf0 rfl (72 + t) (xk_B (Nat.lt_of_lt_of_le ht (by decide))) (xC_brd (Nat.lt_of_lt_of_le ht (by decide))) [.ref (xa G (72 + t1))] rfl rfl (Nat.le_of_ble_eq_true rfl) dW_become_8 (kB_become G t t1 (Nat.lt_of_lt_of_le ht (by decide)) (Nat.lt_of_lt_of_le ht1 (by decide)) z m) (fun r8 => ?_)
  refine xR_aln 11 0 dW_become_11 rfl rfl ?_
  refine xR_getf 12 xcf5 1 (77 + t) (by decide) (xk_W ht) (xC_twn ht) (v := .ref (xa G (36 + (7 * t + 1)))) rfl fl_RX6_23 dW_become_12 ?_
  refine xR_aln 15 1 dW_become_15 rfl rfl ?_
  refine xR_getf 16 xcf5 1 (77 + t1) (by decide) (xk_W ht1) (xC_twn ht1) (v := .ref (xa G (36 + (7 * t1 + 1)))) rfl fl_RX6_23 dW_become_16 ?_
  refine xR_callVvc 19 cv_T_become ml_RX6_61 ⟨Nat.le_of_ble_eq_true rfl, Nat.le_of_ble_eq_true rfl⟩ xcf3 rfl (36 + (7 * t + 1)) (xk_T (xtw_lt ht (by decide))) (xC_tab (xtw_lt ht (by decide))) [.ref (xa G (36 + (7 * t1 + 1)))] rfl rfl (Nat.le_of_ble_eq_true rfl) dW_become_19 (kT_become G (7 * t + 1) (7 * t1 + 1) (xtw_lt ht (by decide)) (xtw_lt ht1 (by decide)) z r8) (fun r19 => ?_)
  refine xR_aln 22 0 dW_become_22 rfl rfl ?_
  refine xR_getf 23 xcf5 2 (77 + t) (by decide) (xk_W ht) (xC_twn ht) (v := .ref (xa G (36 + (7 * t + 2)))) rfl fl_RX6_27 dW_become_23 ?_
  refine xR_aln 26 1 dW_become_26 rfl rfl ?_
  refine xR_getf 27 xcf5 2 (77 + t1) (by decide) (xk_W ht1) (xC_twn ht1) (v := .ref (xa G (36 + (7 * t1 + 2)))) rfl fl_RX6_27 dW_become_27 ?_
  refine xR_callVvc 30 cv_T_become ml_RX6_61 ⟨Nat.le_of_ble_eq_true rfl, Nat.le_of_ble_eq_true rfl⟩ xcf3 rfl (36 + (7 * t + 2)) (xk_T (xtw_lt ht (by decide))) (xC_tab (xtw_lt ht (by decide))) [.ref (xa G (36 + (7 * t1 + 2)))] rfl rfl (Nat.le_of_ble_eq_true rfl) dW_become_30 (kT_become G (7 * t + 2) (7 * t1 + 2) (xtw_lt ht (by decide)) (xtw_lt ht1 (by decide)) z r19) (fun r30 => ?_)
  refine xR_aln 33 0 dW_become_33 rfl rfl ?_
  refine xR_getf 34 xcf5 3 (77 + t) (by decide) (xk_W ht) (xC_twn ht) (v := .ref (xa G (36 + (7 * t + 3)))) rfl fl_RX6_30 dW_become_34 ?_
  refine xR_aln 37 1 dW_become_37 rfl rfl ?_
  refine xR_getf 38 xcf5 3 (77 + t1) (by decide) (xk_W ht1) (xC_twn ht1) (v := .ref (xa G (36 + (7 * t1 + 3)))) rfl fl_RX6_30 dW_become_38 ?_
  refine xR_callVvc 41 cv_T_become ml_RX6_61 ⟨Nat.le_of_ble_eq_true rfl, Nat.le_of_ble_eq_true rfl⟩ xcf3 rfl (36 + (7 * t + 3)) (xk_T (xtw_lt ht (by decide))) (xC_tab (xtw_lt ht (by decide))) [.ref (xa G (36 + (7 * t1 + 3)))] rfl rfl (Nat.le_of_ble_eq_true rfl) dW_become_41 (kT_become G (7 * t + 3) (7 * t1 + 3) (xtw_lt ht (by decide)) (xtw_lt ht1 (by decide)) z r30) (fun r41 => ?_)
  refine xR_aln 44 0 dW_become_44 rfl rfl ?_
  refine xR_getf 45 xcf5 4 (77 + t) (by decide) (xk_W ht) (xC_twn ht) (v := .ref (xa G (36 + (7 * t + 4)))) rfl fl_RX6_33 dW_become_45 ?_
  refine xR_aln 48 1 dW_become_48 rfl rfl ?_
  refine xR_getf 49 xcf5 4 (77 + t1) (by decide) (xk_W ht1) (xC_twn ht1) (v := .ref (xa G (36 + (7 * t1 + 4)))) rfl fl_RX6_33 dW_become_49 ?_
  refine xR_callVvc 52 cv_T_become ml_RX6_61 ⟨Nat.le_of_ble_eq_true rfl, Nat.le_of_ble_eq_true rfl⟩ xcf3 rfl (36 + (7 * t + 4)) (xk_T (xtw_lt ht (by decide))) (xC_tab (xtw_lt ht (by decide))) [.ref (xa G (36 + (7 * t1 + 4)))] rfl rfl (Nat.le_of_ble_eq_true rfl) dW_become_52 (kT_become G (7 * t + 4) (7 * t1 + 4) (xtw_lt ht (by decide)) (xtw_lt ht1 (by decide)) z r41) (fun r52 => ?_)
  refine xR_aln 55 0 dW_become_55 rfl rfl ?_
  refine xR_getf 56 xcf5 5 (77 + t) (by decide) (xk_W ht) (xC_twn ht) (v := .ref (xa G (36 + (7 * t + 5)))) rfl fl_RX6_36 dW_become_56 ?_
  refine xR_aln 59 1 dW_become_59 rfl rfl ?_
  refine xR_getf 60 xcf5 5 (77 + t1) (by decide) (xk_W ht1) (xC_twn ht1) (v := .ref (xa G (36 + (7 * t1 + 5)))) rfl fl_RX6_36 dW_become_60 ?_
  refine xR_callVvc 63 cv_T_become ml_RX6_61 ⟨Nat.le_of_ble_eq_true rfl, Nat.le_of_ble_eq_true rfl⟩ xcf3 rfl (36 + (7 * t + 5)) (xk_T (xtw_lt ht (by decide))) (xC_tab (xtw_lt ht (by decide))) [.ref (xa G (36 + (7 * t1 + 5)))] rfl rfl (Nat.le_of_ble_eq_true rfl) dW_become_63 (kT_become G (7 * t + 5) (7 * t1 + 5) (xtw_lt ht (by decide)) (xtw_lt ht1 (by decide)) z r52) (fun r63 => ?_)
  refine xR_aln 66 0 dW_become_66 rfl rfl ?_
  refine xR_getf 67 xcf5 6 (77 + t) (by decide) (xk_W ht) (xC_twn ht) (v := .ref (xa G (36 + (7 * t + 6)))) rfl fl_RX6_39 dW_become_67 ?_
  refine xR_aln 70 1 dW_become_70 rfl rfl ?_
  refine xR_getf 71 xcf5 6 (77 + t1) (by decide) (xk_W ht1) (xC_twn ht1) (v := .ref (xa G (36 + (7 * t1 + 6)))) rfl fl_RX6_39 dW_become_71 ?_
  refine xR_callVvc 74 cv_T_become ml_RX6_61 ⟨Nat.le_of_ble_eq_true rfl, Nat.le_of_ble_eq_true rfl⟩ xcf3 rfl (36 + (7 * t + 6)) (xk_T (xtw_lt ht (by decide))) (xC_tab (xtw_lt ht (by decide))) [.ref (xa G (36 + (7 * t1 + 6)))] rfl rfl (Nat.le_of_ble_eq_true rfl) dW_become_74 (kT_become G (7 * t + 6) (7 * t1 + 6) (xtw_lt ht (by decide)) (xtw_lt ht1 (by decide)) z r63) (fun r74 => ?_)
  exact xR_vret 77 rfl rfl dW_become_77
theorem dW_remember_0 : decode (xb yyW_remember) 0 = .ok (.aload_n 0, 1) := by decide +kernel
theorem dW_remember_1 : decode (xb yyW_remember) 1 = .ok (.getfield 23, 3) := by decide +kernel
theorem dW_remember_4 : decode (xb yyW_remember) 4 = .ok (.invokevirtual 64, 3) := by decide +kernel
theorem dW_remember_7 : decode (xb yyW_remember) 7 = .ok (.bipush 8, 2) := by decide +kernel
theorem dW_remember_9 : decode (xb yyW_remember) 9 = .ok (.if_icmp .lt 10, 3) := by decide +kernel
theorem dW_remember_12 : decode (xb yyW_remember) 12 = .ok (.aload_n 0, 1) := by decide +kernel
theorem dW_remember_13 : decode (xb yyW_remember) 13 = .ok (.getfield 23, 3) := by decide +kernel
theorem dW_remember_16 : decode (xb yyW_remember) 16 = .ok (.invokevirtual 67, 3) := by decide +kernel
theorem dW_remember_19 : decode (xb yyW_remember) 19 = .ok (.aload_n 0, 1) := by decide +kernel
theorem dW_remember_20 : decode (xb yyW_remember) 20 = .ok (.getfield 12, 3) := by decide +kernel
theorem dW_remember_23 : decode (xb yyW_remember) 23 = .ok (.aload_n 0, 1) := by decide +kernel
theorem dW_remember_24 : decode (xb yyW_remember) 24 = .ok (.getfield 23, 3) := by decide +kernel
theorem dW_remember_27 : decode (xb yyW_remember) 27 = .ok (.aload_n 0, 1) := by decide +kernel
theorem dW_remember_28 : decode (xb yyW_remember) 28 = .ok (.getfield 23, 3) := by decide +kernel
theorem dW_remember_31 : decode (xb yyW_remember) 31 = .ok (.invokevirtual 48, 3) := by decide +kernel
theorem dW_remember_34 : decode (xb yyW_remember) 34 = .ok (.invokevirtual 70, 3) := by decide +kernel
theorem dW_remember_37 : decode (xb yyW_remember) 37 = .ok (.return_, 1) := by decide +kernel
def fW_remember_b19 (t : Nat) (m : xM) : Option (xM) := (fT_newRow (7 * t + 1) m).bind fun r31 => (fB_keepIn t (7 * t + 1) r31.1 r31.2).bind fun r34 => some r34
def fW_remember (t : Nat) (m : xM) : Option (xM) := (fT_many (7 * t + 1) m).bind fun r4 => (if r4 < (8 : Int32) then fW_remember_b19 t m else (fT_dropFirst (7 * t + 1) m).bind fun r16 => fW_remember_b19 t r16)
set_option maxRecDepth 100000 in
set_option maxHeartbeats 4000000 in
theorem kW_remember_b19 (G : xG) (t : Nat) (ht : t < 4) (z : xM)    (m : xM) : xR G yyW_remember (emvc z) 19 [(0, .ref (xa G (77 + t)))] [] (m, z) (fW_remember_b19 t m) := by
  unfold fW_remember_b19
  refine xR_aln 19 0 dW_remember_19 rfl rfl ?_
  refine xR_getf 20 xcf5 0 (77 + t) (by decide) (xk_W ht) (xC_twn ht) (v := .ref (xa G (72 + t))) rfl fl_RX6_12 dW_remember_20 ?_
  refine xR_aln 23 0 dW_remember_23 rfl rfl ?_
  refine xR_getf 24 xcf5 1 (77 + t) (by decide) (xk_W ht) (xC_twn ht) (v := .ref (xa G (36 + (7 * t + 1)))) rfl fl_RX6_23 dW_remember_24 ?_
  refine xR_aln 27 0 dW_remember_27 rfl rfl ?_
  refine xR_getf 28 xcf5 1 (77 + t) (by decide) (xk_W ht) (xC_twn ht) (v := .ref (xa G (36 + (7 * t + 1)))) rfl fl_RX6_23 dW_remember_28 ?_
  refine xR_callVic 31 cv_T_newRow ml_RX6_48 ⟨Nat.le_of_ble_eq_true rfl, Nat.le_of_ble_eq_true rfl⟩ xcf3 rfl (36 + (7 * t + 1)) (xk_T (xtw_lt ht (by decide))) (xC_tab (xtw_lt ht (by decide))) [] rfl rfl (Nat.le_of_ble_eq_true rfl) dW_remember_31 (kT_newRow G (7 * t + 1) (xtw_lt ht (by decide)) z m) (fun r31 => ?_)
  refine xR_callVvc 34 cv_B_keepIn ml_RX6_70 ⟨Nat.le_of_ble_eq_true rfl, Nat.le_of_ble_eq_true rfl⟩ xcf0 rfl (72 + t) (xk_B (Nat.lt_of_lt_of_le ht (by decide))) (xC_brd (Nat.lt_of_lt_of_le ht (by decide))) [.ref (xa G (36 + (7 * t + 1))), .int r31.1] rfl rfl (Nat.le_of_ble_eq_true rfl) dW_remember_34 (kB_keepIn G t (7 * t + 1) (Nat.lt_of_lt_of_le ht (by decide)) (xtw_lt ht (by decide)) z r31.2 r31.1) (fun r34 => ?_)
  exact xR_vret 37 rfl rfl dW_remember_37
set_option maxRecDepth 100000 in
set_option maxHeartbeats 4000000 in
theorem kW_remember (G : xG) (t : Nat) (ht : t < 4) (z : xM) (m : xM) : ∀ a, fW_remember t m = some a → xCt G yyW_remember [.ref (xa G (77 + t))] (m, z) (none) (a, z) := by
  refine xR_ct (em := (emvc z)) rfl (Nat.le_of_ble_eq_true rfl) ?_
  show xR G yyW_remember _ 0 [(0, .ref (xa G (77 + t)))] [] _ _
  unfold fW_remember
  refine xR_aln 0 0 dW_remember_0 rfl rfl ?_
  refine xR_getf 1 xcf5 1 (77 + t) (by decide) (xk_W ht) (xC_twn ht) (v := .ref (xa G (36 + (7 * t + 1)))) rfl fl_RX6_23 dW_remember_1 ?_
  refine xR_callVi 4 cv_T_many ml_RX6_64 ⟨Nat.le_of_ble_eq_true rfl, Nat.le_of_ble_eq_true rfl⟩ xcf3 rfl (36 + (7 * t + 1)) (xk_T (xtw_lt ht (by decide))) (xC_tab (xtw_lt ht (by decide))) [] rfl rfl (Nat.le_of_ble_eq_true rfl) dW_remember_4 (kT_many G (7 * t + 1) (xtw_lt ht (by decide)) z m) (fun r4 => ?_)
  refine xR_bp 7 (8 : Int32) dW_remember_7 (by decide) ?_
  refine xR_iclt 9 19 dW_remember_9 (by decide) ?_ ?_
  · exact kW_remember_b19 G t ht z m
  · refine xR_aln 12 0 dW_remember_12 rfl rfl ?_
    refine xR_getf 13 xcf5 1 (77 + t) (by decide) (xk_W ht) (xC_twn ht) (v := .ref (xa G (36 + (7 * t + 1)))) rfl fl_RX6_23 dW_remember_13 ?_
    refine xR_callVvc 16 cv_T_dropFirst ml_RX6_67 ⟨Nat.le_of_ble_eq_true rfl, Nat.le_of_ble_eq_true rfl⟩ xcf3 rfl (36 + (7 * t + 1)) (xk_T (xtw_lt ht (by decide))) (xC_tab (xtw_lt ht (by decide))) [] rfl rfl (Nat.le_of_ble_eq_true rfl) dW_remember_16 (kT_dropFirst G (7 * t + 1) (xtw_lt ht (by decide)) z m) (fun r16 => ?_)
    exact kW_remember_b19 G t ht z r16
theorem dW_hasInstrument_0 : decode (xb yyW_hasInstrument) 0 = .ok (.iload_n 1, 1) := by decide +kernel
theorem dW_hasInstrument_1 : decode (xb yyW_hasInstrument) 1 = .ok (.ifCond .lt 18, 3) := by decide +kernel
theorem dW_hasInstrument_4 : decode (xb yyW_hasInstrument) 4 = .ok (.iload_n 1, 1) := by decide +kernel
theorem dW_hasInstrument_5 : decode (xb yyW_hasInstrument) 5 = .ok (.aload_n 0, 1) := by decide +kernel
theorem dW_hasInstrument_6 : decode (xb yyW_hasInstrument) 6 = .ok (.getfield 30, 3) := by decide +kernel
theorem dW_hasInstrument_9 : decode (xb yyW_hasInstrument) 9 = .ok (.invokevirtual 64, 3) := by decide +kernel
theorem dW_hasInstrument_12 : decode (xb yyW_hasInstrument) 12 = .ok (.if_icmp .ge 7, 3) := by decide +kernel
theorem dW_hasInstrument_15 : decode (xb yyW_hasInstrument) 15 = .ok (.iconst 1, 1) := by decide +kernel
theorem dW_hasInstrument_16 : decode (xb yyW_hasInstrument) 16 = .ok (.goto 4, 3) := by decide +kernel
theorem dW_hasInstrument_19 : decode (xb yyW_hasInstrument) 19 = .ok (.iconst 0, 1) := by decide +kernel
theorem dW_hasInstrument_20 : decode (xb yyW_hasInstrument) 20 = .ok (.ireturn, 1) := by decide +kernel
def fW_hasInstrument (t : Nat) (m : xM) (v1 : Int32) : Option (Int32) := (if v1 < 0 then some (xnb (0 : Int32)) else (fT_many (7 * t + 3) m).bind fun r9 => (if r9 ≤ v1 then some (xnb (0 : Int32)) else some (xnb (1 : Int32))))
set_option maxRecDepth 100000 in
set_option maxHeartbeats 4000000 in
theorem kW_hasInstrument (G : xG) (t : Nat) (ht : t < 4) (z : xM) (m : xM) (v1 : Int32) : ∀ a, fW_hasInstrument t m v1 = some a → xCt G yyW_hasInstrument [.ref (xa G (77 + t)), .int v1] (m, z) (some (.int a)) (m, z) := by
  refine xR_ct (em := (emi (m, z))) rfl (Nat.le_of_ble_eq_true rfl) ?_
  show xR G yyW_hasInstrument _ 0 [(0, .ref (xa G (77 + t))), (1, .int v1)] [] _ _
  unfold fW_hasInstrument
  refine xR_iln 0 1 dW_hasInstrument_0 rfl rfl ?_
  refine xR_iflt 1 19 dW_hasInstrument_1 (by decide) ?_ ?_
  · refine xR_ic 19 (0 : Int32) dW_hasInstrument_19 (by decide) ?_
    exact xR_zret 20 rfl rfl dW_hasInstrument_20
  · refine xR_iln 4 1 dW_hasInstrument_4 rfl rfl ?_
    refine xR_aln 5 0 dW_hasInstrument_5 rfl rfl ?_
    refine xR_getf 6 xcf5 3 (77 + t) (by decide) (xk_W ht) (xC_twn ht) (v := .ref (xa G (36 + (7 * t + 3)))) rfl fl_RX6_30 dW_hasInstrument_6 ?_
    refine xR_callVi 9 cv_T_many ml_RX6_64 ⟨Nat.le_of_ble_eq_true rfl, Nat.le_of_ble_eq_true rfl⟩ xcf3 rfl (36 + (7 * t + 3)) (xk_T (xtw_lt ht (by decide))) (xC_tab (xtw_lt ht (by decide))) [] rfl rfl (Nat.le_of_ble_eq_true rfl) dW_hasInstrument_9 (kT_many G (7 * t + 3) (xtw_lt ht (by decide)) z m) (fun r9 => ?_)
    refine xR_icge 12 19 dW_hasInstrument_12 (by decide) ?_ ?_
    · refine xR_ic 19 (0 : Int32) dW_hasInstrument_19 (by decide) ?_
      exact xR_zret 20 rfl rfl dW_hasInstrument_20
    · refine xR_ic 15 (1 : Int32) dW_hasInstrument_15 (by decide) ?_
      refine xR_goto 16 20 dW_hasInstrument_16 (by decide) ?_
      exact xR_zret 20 rfl rfl dW_hasInstrument_20
theorem dW_stepBack_0 : decode (xb yyW_stepBack) 0 = .ok (.aload_n 0, 1) := by decide +kernel
theorem dW_stepBack_1 : decode (xb yyW_stepBack) 1 = .ok (.getfield 12, 3) := by decide +kernel
theorem dW_stepBack_4 : decode (xb yyW_stepBack) 4 = .ok (.aload_n 0, 1) := by decide +kernel
theorem dW_stepBack_5 : decode (xb yyW_stepBack) 5 = .ok (.getfield 23, 3) := by decide +kernel
theorem dW_stepBack_8 : decode (xb yyW_stepBack) 8 = .ok (.aload_n 0, 1) := by decide +kernel
theorem dW_stepBack_9 : decode (xb yyW_stepBack) 9 = .ok (.getfield 23, 3) := by decide +kernel
theorem dW_stepBack_12 : decode (xb yyW_stepBack) 12 = .ok (.invokevirtual 64, 3) := by decide +kernel
theorem dW_stepBack_15 : decode (xb yyW_stepBack) 15 = .ok (.iconst 1, 1) := by decide +kernel
theorem dW_stepBack_16 : decode (xb yyW_stepBack) 16 = .ok (.isub, 1) := by decide +kernel
theorem dW_stepBack_17 : decode (xb yyW_stepBack) 17 = .ok (.invokevirtual 74, 3) := by decide +kernel
theorem dW_stepBack_20 : decode (xb yyW_stepBack) 20 = .ok (.aload_n 0, 1) := by decide +kernel
theorem dW_stepBack_21 : decode (xb yyW_stepBack) 21 = .ok (.getfield 23, 3) := by decide +kernel
theorem dW_stepBack_24 : decode (xb yyW_stepBack) 24 = .ok (.invokevirtual 77, 3) := by decide +kernel
theorem dW_stepBack_27 : decode (xb yyW_stepBack) 27 = .ok (.return_, 1) := by decide +kernel
def fW_stepBack (t : Nat) (m : xM) : Option (xM) := (fT_many (7 * t + 1) m).bind fun r12 => (fB_goBackTo t (7 * t + 1) (r12 - (1 : Int32)) m).bind fun r17 => (fT_dropLast (7 * t + 1) r17).bind fun r24 => some r24
set_option maxRecDepth 100000 in
set_option maxHeartbeats 4000000 in
theorem kW_stepBack (G : xG) (t : Nat) (ht : t < 4) (z : xM) (m : xM) : ∀ a, fW_stepBack t m = some a → xCt G yyW_stepBack [.ref (xa G (77 + t))] (m, z) (none) (a, z) := by
  refine xR_ct (em := (emvc z)) rfl (Nat.le_of_ble_eq_true rfl) ?_
  show xR G yyW_stepBack _ 0 [(0, .ref (xa G (77 + t)))] [] _ _
  unfold fW_stepBack
  refine xR_aln 0 0 dW_stepBack_0 rfl rfl ?_
  refine xR_getf 1 xcf5 0 (77 + t) (by decide) (xk_W ht) (xC_twn ht) (v := .ref (xa G (72 + t))) rfl fl_RX6_12 dW_stepBack_1 ?_
  refine xR_aln 4 0 dW_stepBack_4 rfl rfl ?_
  refine xR_getf 5 xcf5 1 (77 + t) (by decide) (xk_W ht) (xC_twn ht) (v := .ref (xa G (36 + (7 * t + 1)))) rfl fl_RX6_23 dW_stepBack_5 ?_
  refine xR_aln 8 0 dW_stepBack_8 rfl rfl ?_
  refine xR_getf 9 xcf5 1 (77 + t) (by decide) (xk_W ht) (xC_twn ht) (v := .ref (xa G (36 + (7 * t + 1)))) rfl fl_RX6_23 dW_stepBack_9 ?_
  refine xR_callVi 12 cv_T_many ml_RX6_64 ⟨Nat.le_of_ble_eq_true rfl, Nat.le_of_ble_eq_true rfl⟩ xcf3 rfl (36 + (7 * t + 1)) (xk_T (xtw_lt ht (by decide))) (xC_tab (xtw_lt ht (by decide))) [] rfl rfl (Nat.le_of_ble_eq_true rfl) dW_stepBack_12 (kT_many G (7 * t + 1) (xtw_lt ht (by decide)) z m) (fun r12 => ?_)
  refine xR_ic 15 (1 : Int32) dW_stepBack_15 (by decide) ?_
  refine xR_isub 16 dW_stepBack_16 ?_
  refine xR_callVvc 17 cv_B_goBackTo ml_RX6_74 ⟨Nat.le_of_ble_eq_true rfl, Nat.le_of_ble_eq_true rfl⟩ xcf0 rfl (72 + t) (xk_B (Nat.lt_of_lt_of_le ht (by decide))) (xC_brd (Nat.lt_of_lt_of_le ht (by decide))) [.ref (xa G (36 + (7 * t + 1))), .int (r12 - (1 : Int32))] rfl rfl (Nat.le_of_ble_eq_true rfl) dW_stepBack_17 (kB_goBackTo G t (7 * t + 1) (Nat.lt_of_lt_of_le ht (by decide)) (xtw_lt ht (by decide)) z m (r12 - (1 : Int32))) (fun r17 => ?_)
  refine xR_aln 20 0 dW_stepBack_20 rfl rfl ?_
  refine xR_getf 21 xcf5 1 (77 + t) (by decide) (xk_W ht) (xC_twn ht) (v := .ref (xa G (36 + (7 * t + 1)))) rfl fl_RX6_23 dW_stepBack_21 ?_
  refine xR_callVvc 24 cv_T_dropLast ml_RX6_77 ⟨Nat.le_of_ble_eq_true rfl, Nat.le_of_ble_eq_true rfl⟩ xcf3 rfl (36 + (7 * t + 1)) (xk_T (xtw_lt ht (by decide))) (xC_tab (xtw_lt ht (by decide))) [] rfl rfl (Nat.le_of_ble_eq_true rfl) dW_stepBack_24 (kT_dropLast G (7 * t + 1) (xtw_lt ht (by decide)) z r17) (fun r24 => ?_)
  exact xR_vret 27 rfl rfl dW_stepBack_27
theorem dW_playOn_0 : decode (xb yyW_playOn) 0 = .ok (.iconst 0, 1) := by decide +kernel
theorem dW_playOn_1 : decode (xb yyW_playOn) 1 = .ok (.istore 5, 2) := by decide +kernel
theorem dW_playOn_3 : decode (xb yyW_playOn) 3 = .ok (.iconst 0, 1) := by decide +kernel
theorem dW_playOn_4 : decode (xb yyW_playOn) 4 = .ok (.istore 6, 2) := by decide +kernel
theorem dW_playOn_6 : decode (xb yyW_playOn) 6 = .ok (.iconst 0, 1) := by decide +kernel
theorem dW_playOn_7 : decode (xb yyW_playOn) 7 = .ok (.istore 7, 2) := by decide +kernel
theorem dW_playOn_9 : decode (xb yyW_playOn) 9 = .ok (.iconst 0, 1) := by decide +kernel
theorem dW_playOn_10 : decode (xb yyW_playOn) 10 = .ok (.istore 8, 2) := by decide +kernel
theorem dW_playOn_12 : decode (xb yyW_playOn) 12 = .ok (.iload 8, 2) := by decide +kernel
theorem dW_playOn_14 : decode (xb yyW_playOn) 14 = .ok (.aload_n 1, 1) := by decide +kernel
theorem dW_playOn_15 : decode (xb yyW_playOn) 15 = .ok (.invokevirtual 91, 3) := by decide +kernel
theorem dW_playOn_18 : decode (xb yyW_playOn) 18 = .ok (.if_icmp .ge 59, 3) := by decide +kernel
theorem dW_playOn_21 : decode (xb yyW_playOn) 21 = .ok (.aload_n 1, 1) := by decide +kernel
theorem dW_playOn_22 : decode (xb yyW_playOn) 22 = .ok (.iload 8, 2) := by decide +kernel
theorem dW_playOn_24 : decode (xb yyW_playOn) 24 = .ok (.iconst 5, 1) := by decide +kernel
theorem dW_playOn_25 : decode (xb yyW_playOn) 25 = .ok (.invokevirtual 92, 3) := by decide +kernel
theorem dW_playOn_28 : decode (xb yyW_playOn) 28 = .ok (.iload_n 2, 1) := by decide +kernel
theorem dW_playOn_29 : decode (xb yyW_playOn) 29 = .ok (.if_icmp .eq 13, 3) := by decide +kernel
theorem dW_playOn_32 : decode (xb yyW_playOn) 32 = .ok (.iload 4, 2) := by decide +kernel
theorem dW_playOn_34 : decode (xb yyW_playOn) 34 = .ok (.iload 8, 2) := by decide +kernel
theorem dW_playOn_36 : decode (xb yyW_playOn) 36 = .ok (.invokestatic 96, 3) := by decide +kernel
theorem dW_playOn_39 : decode (xb yyW_playOn) 39 = .ok (.ifCond .eq 32, 3) := by decide +kernel
theorem dW_playOn_42 : decode (xb yyW_playOn) 42 = .ok (.iload 5, 2) := by decide +kernel
theorem dW_playOn_44 : decode (xb yyW_playOn) 44 = .ok (.aload_n 1, 1) := by decide +kernel
theorem dW_playOn_45 : decode (xb yyW_playOn) 45 = .ok (.iload 8, 2) := by decide +kernel
theorem dW_playOn_47 : decode (xb yyW_playOn) 47 = .ok (.iload_n 3, 1) := by decide +kernel
theorem dW_playOn_48 : decode (xb yyW_playOn) 48 = .ok (.invokevirtual 100, 3) := by decide +kernel
theorem dW_playOn_51 : decode (xb yyW_playOn) 51 = .ok (.iadd, 1) := by decide +kernel
theorem dW_playOn_52 : decode (xb yyW_playOn) 52 = .ok (.istore 5, 2) := by decide +kernel
theorem dW_playOn_54 : decode (xb yyW_playOn) 54 = .ok (.iload 6, 2) := by decide +kernel
theorem dW_playOn_56 : decode (xb yyW_playOn) 56 = .ok (.iconst 1, 1) := by decide +kernel
theorem dW_playOn_57 : decode (xb yyW_playOn) 57 = .ok (.aload_n 1, 1) := by decide +kernel
theorem dW_playOn_58 : decode (xb yyW_playOn) 58 = .ok (.iload 8, 2) := by decide +kernel
theorem dW_playOn_60 : decode (xb yyW_playOn) 60 = .ok (.iconst 3, 1) := by decide +kernel
theorem dW_playOn_61 : decode (xb yyW_playOn) 61 = .ok (.invokevirtual 92, 3) := by decide +kernel
theorem dW_playOn_64 : decode (xb yyW_playOn) 64 = .ok (.ishl, 1) := by decide +kernel
theorem dW_playOn_65 : decode (xb yyW_playOn) 65 = .ok (.ior, 1) := by decide +kernel
theorem dW_playOn_66 : decode (xb yyW_playOn) 66 = .ok (.istore 6, 2) := by decide +kernel
theorem dW_playOn_68 : decode (xb yyW_playOn) 68 = .ok (.iinc 7 1, 3) := by decide +kernel
theorem dW_playOn_71 : decode (xb yyW_playOn) 71 = .ok (.iinc 8 1, 3) := by decide +kernel
theorem dW_playOn_74 : decode (xb yyW_playOn) 74 = .ok (.goto (-62), 3) := by decide +kernel
theorem dW_playOn_77 : decode (xb yyW_playOn) 77 = .ok (.iload 7, 2) := by decide +kernel
theorem dW_playOn_79 : decode (xb yyW_playOn) 79 = .ok (.iconst 4, 1) := by decide +kernel
theorem dW_playOn_80 : decode (xb yyW_playOn) 80 = .ok (.if_icmp .le 7, 3) := by decide +kernel
theorem dW_playOn_83 : decode (xb yyW_playOn) 83 = .ok (.iconst (-1), 1) := by decide +kernel
theorem dW_playOn_84 : decode (xb yyW_playOn) 84 = .ok (.goto 25, 3) := by decide +kernel
theorem dW_playOn_87 : decode (xb yyW_playOn) 87 = .ok (.aload_n 0, 1) := by decide +kernel
theorem dW_playOn_88 : decode (xb yyW_playOn) 88 = .ok (.getfield 30, 3) := by decide +kernel
theorem dW_playOn_91 : decode (xb yyW_playOn) 91 = .ok (.iload_n 2, 1) := by decide +kernel
theorem dW_playOn_92 : decode (xb yyW_playOn) 92 = .ok (.iconst 0, 1) := by decide +kernel
theorem dW_playOn_93 : decode (xb yyW_playOn) 93 = .ok (.invokevirtual 103, 3) := by decide +kernel
theorem dW_playOn_96 : decode (xb yyW_playOn) 96 = .ok (.iload_n 3, 1) := by decide +kernel
theorem dW_playOn_97 : decode (xb yyW_playOn) 97 = .ok (.iload 5, 2) := by decide +kernel
theorem dW_playOn_99 : decode (xb yyW_playOn) 99 = .ok (.iload 6, 2) := by decide +kernel
theorem dW_playOn_101 : decode (xb yyW_playOn) 101 = .ok (.invokestatic 106, 3) := by decide +kernel
theorem dW_playOn_104 : decode (xb yyW_playOn) 104 = .ok (.iload 7, 2) := by decide +kernel
theorem dW_playOn_106 : decode (xb yyW_playOn) 106 = .ok (.invokestatic 112, 3) := by decide +kernel
theorem dW_playOn_109 : decode (xb yyW_playOn) 109 = .ok (.ireturn, 1) := by decide +kernel
def fW_playOn_b71 (t : Nat) (t1 : Nat) (m : xM) (k12 : Int32 → Int32 → Int32 → Int32 → Int32 → Int32 → Int32 → Option (Int32)) (v2 : Int32) (v3 : Int32) (v4 : Int32) (v5 : Int32) (v6 : Int32) (v7 : Int32) (v8 : Int32) : Option (Int32) := k12 v2 v3 v4 v5 v6 v7 (v8 + 1)
def fW_playOn_b42 (t : Nat) (t1 : Nat) (m : xM) (k12 : Int32 → Int32 → Int32 → Int32 → Int32 → Int32 → Int32 → Option (Int32)) (v2 : Int32) (v3 : Int32) (v4 : Int32) (v5 : Int32) (v6 : Int32) (v7 : Int32) (v8 : Int32) : Option (Int32) := (fB_soundOf t1 m v8 v3).bind fun r48 => (fB_cell t1 m v8 (3 : Int32)).bind fun r61 => fW_playOn_b71 t t1 m k12 v2 v3 v4 (v5 + r48) (v6 ||| ((1 : Int32) <<< (r61 &&& 31))) (v7 + 1) v8
def fW_playOn_l12 (t : Nat) (t1 : Nat) (m : xM) : Nat → Int32 → Int32 → Int32 → Int32 → Int32 → Int32 → Int32 → Option (Int32)
  | 0, _, _, _, _, _, _, _ => none
  | n + 1, v2, v3, v4, v5, v6, v7, v8 => (fB_many t1 m).bind fun r15 => (if r15 ≤ v8 then (if v7 ≤ (4 : Int32) then (fT_get (7 * t + 3) m v2 (0 : Int32)).bind fun r93 => (fJ_bitCount v6).bind fun r101 => (fS_playBy r93 v3 v5 r101 v7).bind fun r106 => some r106 else some (-1 : Int32)) else (fB_cell t1 m v8 (5 : Int32)).bind fun r25 => (if r25 = v2 then fW_playOn_b42 t t1 m (fW_playOn_l12 t t1 m n) v2 v3 v4 v5 v6 v7 v8 else (fH_holdsBit v4 v8).bind fun r36 => (if r36 = 0 then fW_playOn_b71 t t1 m (fW_playOn_l12 t t1 m n) v2 v3 v4 v5 v6 v7 v8 else fW_playOn_b42 t t1 m (fW_playOn_l12 t t1 m n) v2 v3 v4 v5 v6 v7 v8)))
def fW_playOn (t : Nat) (t1 : Nat) (m : xM) (v2 : Int32) (v3 : Int32) (v4 : Int32) : Option (Int32) := fW_playOn_l12 t t1 m xfu v2 v3 v4 (0 : Int32) (0 : Int32) (0 : Int32) (0 : Int32)
set_option maxRecDepth 100000 in
set_option maxHeartbeats 4000000 in
theorem kW_playOn_b71 (G : xG) (t : Nat) (t1 : Nat) (ht : t < 4) (ht1 : t1 < 5) (z : xM) (m : xM) (k12 : Int32 → Int32 → Int32 → Int32 → Int32 → Int32 → Int32 → Option (Int32)) (hk12 : ∀ (v2 : Int32) (v3 : Int32) (v4 : Int32) (v5 : Int32) (v6 : Int32) (v7 : Int32) (v8 : Int32), xR G yyW_playOn (emi (m, z)) 12 [(0, .ref (xa G (77 + t))), (1, .ref (xa G (72 + t1))), (2, .int v2), (3, .int v3), (4, .int v4), (5, .int v5), (6, .int v6), (7, .int v7), (8, .int v8)] [] (m, z) (k12 v2 v3 v4 v5 v6 v7 v8)) (v2 : Int32) (v3 : Int32) (v4 : Int32) (v5 : Int32) (v6 : Int32) (v7 : Int32) (v8 : Int32) : xR G yyW_playOn (emi (m, z)) 71 [(0, .ref (xa G (77 + t))), (1, .ref (xa G (72 + t1))), (2, .int v2), (3, .int v3), (4, .int v4), (5, .int v5), (6, .int v6), (7, .int v7), (8, .int v8)] [] (m, z) (fW_playOn_b71 t t1 m k12 v2 v3 v4 v5 v6 v7 v8) := by
  unfold fW_playOn_b71
  refine xR_iinc 71 8 (v8 + 1) ([(8, .int (v8 + 1)), (0, .ref (xa G (77 + t))), (1, .ref (xa G (72 + t1))), (2, .int v2), (3, .int v3), (4, .int v4), (5, .int v5), (6, .int v6), (7, .int v7)]) dW_playOn_71 rfl rfl (by decide) rfl ?_
  refine xR_goto 74 12 dW_playOn_74 (by decide) ?_
  exact xR_sub [1, 2, 3, 4, 5, 6, 7, 8, 0] rfl (hk12 v2 v3 v4 v5 v6 v7 (v8 + 1))
set_option maxRecDepth 100000 in
set_option maxHeartbeats 4000000 in
theorem kW_playOn_b42 (G : xG) (t : Nat) (t1 : Nat) (ht : t < 4) (ht1 : t1 < 5) (z : xM) (m : xM) (k12 : Int32 → Int32 → Int32 → Int32 → Int32 → Int32 → Int32 → Option (Int32)) (hk12 : ∀ (v2 : Int32) (v3 : Int32) (v4 : Int32) (v5 : Int32) (v6 : Int32) (v7 : Int32) (v8 : Int32), xR G yyW_playOn (emi (m, z)) 12 [(0, .ref (xa G (77 + t))), (1, .ref (xa G (72 + t1))), (2, .int v2), (3, .int v3), (4, .int v4), (5, .int v5), (6, .int v6), (7, .int v7), (8, .int v8)] [] (m, z) (k12 v2 v3 v4 v5 v6 v7 v8)) (v2 : Int32) (v3 : Int32) (v4 : Int32) (v5 : Int32) (v6 : Int32) (v7 : Int32) (v8 : Int32) : xR G yyW_playOn (emi (m, z)) 42 [(0, .ref (xa G (77 + t))), (1, .ref (xa G (72 + t1))), (2, .int v2), (3, .int v3), (4, .int v4), (5, .int v5), (6, .int v6), (7, .int v7), (8, .int v8)] [] (m, z) (fW_playOn_b42 t t1 m k12 v2 v3 v4 v5 v6 v7 v8) := by
  unfold fW_playOn_b42
  refine xR_il 42 5 dW_playOn_42 rfl ?_
  refine xR_aln 44 1 dW_playOn_44 rfl rfl ?_
  refine xR_il 45 8 dW_playOn_45 rfl ?_
  refine xR_iln 47 3 dW_playOn_47 rfl rfl ?_
  refine xR_callVi 48 cv_B_soundOf ml_RX6_100 ⟨Nat.le_of_ble_eq_true rfl, Nat.le_of_ble_eq_true rfl⟩ xcf0 rfl (72 + t1) (xk_B ht1) (xC_brd ht1) [.int v8, .int v3] rfl rfl (Nat.le_of_ble_eq_true rfl) dW_playOn_48 (kB_soundOf G t1 ht1 z m v8 v3) (fun r48 => ?_)
  refine xR_iadd 51 dW_playOn_51 ?_
  refine xR_is 52 ([(5, .int (v5 + r48)), (0, .ref (xa G (77 + t))), (1, .ref (xa G (72 + t1))), (2, .int v2), (3, .int v3), (4, .int v4), (6, .int v6), (7, .int v7), (8, .int v8)]) dW_playOn_52 (by decide) rfl ?_
  refine xR_il 54 6 dW_playOn_54 rfl ?_
  refine xR_ic 56 (1 : Int32) dW_playOn_56 (by decide) ?_
  refine xR_aln 57 2 dW_playOn_57 rfl rfl ?_
  refine xR_il 58 8 dW_playOn_58 rfl ?_
  refine xR_ic 60 (3 : Int32) dW_playOn_60 (by decide) ?_
  refine xR_callVi 61 cv_B_cell ml_RX6_92 ⟨Nat.le_of_ble_eq_true rfl, Nat.le_of_ble_eq_true rfl⟩ xcf0 rfl (72 + t1) (xk_B ht1) (xC_brd ht1) [.int v8, .int (3 : Int32)] rfl rfl (Nat.le_of_ble_eq_true rfl) dW_playOn_61 (kB_cell G t1 ht1 z m v8 (3 : Int32)) (fun r61 => ?_)
  refine xR_ishl 64 dW_playOn_64 ?_
  refine xR_ior 65 dW_playOn_65 ?_
  refine xR_is 66 ([(6, .int (v6 ||| ((1 : Int32) <<< (r61 &&& 31)))), (5, .int (v5 + r48)), (0, .ref (xa G (77 + t))), (1, .ref (xa G (72 + t1))), (2, .int v2), (3, .int v3), (4, .int v4), (7, .int v7), (8, .int v8)]) dW_playOn_66 (by decide) rfl ?_
  refine xR_iinc 68 7 (v7 + 1) ([(7, .int (v7 + 1)), (6, .int (v6 ||| ((1 : Int32) <<< (r61 &&& 31)))), (5, .int (v5 + r48)), (0, .ref (xa G (77 + t))), (1, .ref (xa G (72 + t1))), (2, .int v2), (3, .int v3), (4, .int v4), (8, .int v8)]) dW_playOn_68 rfl rfl (by decide) rfl ?_
  exact xR_sub [3, 4, 5, 6, 7, 2, 1, 0, 8] rfl (kW_playOn_b71 G t t1 ht ht1 z m k12 hk12 v2 v3 v4 (v5 + r48) (v6 ||| ((1 : Int32) <<< (r61 &&& 31))) (v7 + 1) v8)
set_option maxRecDepth 100000 in
set_option maxHeartbeats 4000000 in
theorem kW_playOn_l12 (G : xG) (t : Nat) (t1 : Nat) (ht : t < 4) (ht1 : t1 < 5) (z : xM) (m : xM)   : ∀ (n : Nat) (v2 : Int32) (v3 : Int32) (v4 : Int32) (v5 : Int32) (v6 : Int32) (v7 : Int32) (v8 : Int32), xR G yyW_playOn (emi (m, z)) 12 [(0, .ref (xa G (77 + t))), (1, .ref (xa G (72 + t1))), (2, .int v2), (3, .int v3), (4, .int v4), (5, .int v5), (6, .int v6), (7, .int v7), (8, .int v8)] [] (m, z) (fW_playOn_l12 t t1 m n v2 v3 v4 v5 v6 v7 v8) := by
  intro n
  induction n with
  | zero =>
    intro v2 v3 v4 v5 v6 v7 v8
    rw [fW_playOn_l12]
    exact xR_none
  | succ n ih =>
    intro v2 v3 v4 v5 v6 v7 v8
    rw [fW_playOn_l12]
    refine xR_il 12 8 dW_playOn_12 rfl ?_
    refine xR_aln 14 1 dW_playOn_14 rfl rfl ?_
    refine xR_callVi 15 cv_B_many ml_RX6_91 ⟨Nat.le_of_ble_eq_true rfl, Nat.le_of_ble_eq_true rfl⟩ xcf0 rfl (72 + t1) (xk_B ht1) (xC_brd ht1) [] rfl rfl (Nat.le_of_ble_eq_true rfl) dW_playOn_15 (kB_many G t1 ht1 z m) (fun r15 => ?_)
    refine xR_icge 18 77 dW_playOn_18 (by decide) ?_ ?_
    · refine xR_il 77 7 dW_playOn_77 rfl ?_
      refine xR_ic 79 (4 : Int32) dW_playOn_79 (by decide) ?_
      refine xR_icle 80 87 dW_playOn_80 (by decide) ?_ ?_
      · refine xR_aln 87 0 dW_playOn_87 rfl rfl ?_
        refine xR_getf 88 xcf5 3 (77 + t) (by decide) (xk_W ht) (xC_twn ht) (v := .ref (xa G (36 + (7 * t + 3)))) rfl fl_RX6_30 dW_playOn_88 ?_
        refine xR_iln 91 2 dW_playOn_91 rfl rfl ?_
        refine xR_ic 92 (0 : Int32) dW_playOn_92 (by decide) ?_
        refine xR_callVi 93 cv_T_get ml_RX6_103 ⟨Nat.le_of_ble_eq_true rfl, Nat.le_of_ble_eq_true rfl⟩ xcf3 rfl (36 + (7 * t + 3)) (xk_T (xtw_lt ht (by decide))) (xC_tab (xtw_lt ht (by decide))) [.int v2, .int (0 : Int32)] rfl rfl (Nat.le_of_ble_eq_true rfl) dW_playOn_93 (kT_get G (7 * t + 3) (xtw_lt ht (by decide)) z m v2 (0 : Int32)) (fun r93 => ?_)
        refine xR_iln 96 3 dW_playOn_96 rfl rfl ?_
        refine xR_il 97 5 dW_playOn_97 rfl ?_
        refine xR_il 99 6 dW_playOn_99 rfl ?_
        refine xR_callSi 101 cs_J_bitCount ml_RX6_106 ⟨Nat.le_of_ble_eq_true rfl, Nat.le_of_ble_eq_true rfl⟩ [.int v6] rfl rfl (Nat.le_of_ble_eq_true rfl) dW_playOn_101 (kJ_bitCount G (m, z) v6) (fun r101 => ?_)
        refine xR_il 104 7 dW_playOn_104 rfl ?_
        refine xR_callSi 106 cs_S_playBy ml_RX6_112 ⟨Nat.le_of_ble_eq_true rfl, Nat.le_of_ble_eq_true rfl⟩ [.int r93, .int v3, .int v5, .int r101, .int v7] rfl rfl (Nat.le_of_ble_eq_true rfl) dW_playOn_106 (kS_playBy G (m, z) r93 v3 v5 r101 v7) (fun r106 => ?_)
        exact xR_iret 109 rfl rfl dW_playOn_109
      · refine xR_ic 83 (-1 : Int32) dW_playOn_83 (by decide) ?_
        refine xR_goto 84 109 dW_playOn_84 (by decide) ?_
        exact xR_iret 109 rfl rfl dW_playOn_109
    · refine xR_aln 21 1 dW_playOn_21 rfl rfl ?_
      refine xR_il 22 8 dW_playOn_22 rfl ?_
      refine xR_ic 24 (5 : Int32) dW_playOn_24 (by decide) ?_
      refine xR_callVi 25 cv_B_cell ml_RX6_92 ⟨Nat.le_of_ble_eq_true rfl, Nat.le_of_ble_eq_true rfl⟩ xcf0 rfl (72 + t1) (xk_B ht1) (xC_brd ht1) [.int v8, .int (5 : Int32)] rfl rfl (Nat.le_of_ble_eq_true rfl) dW_playOn_25 (kB_cell G t1 ht1 z m v8 (5 : Int32)) (fun r25 => ?_)
      refine xR_iln 28 2 dW_playOn_28 rfl rfl ?_
      refine xR_iceq 29 42 dW_playOn_29 (by decide) ?_ ?_
      · exact kW_playOn_b42 G t t1 ht ht1 z m (fW_playOn_l12 t t1 m n) ih v2 v3 v4 v5 v6 v7 v8
      · refine xR_il 32 4 dW_playOn_32 rfl ?_
        refine xR_il 34 8 dW_playOn_34 rfl ?_
        refine xR_callSNi (host := RX8) 36 cs_H_holdsBit (by decide +kernel) ⟨Nat.le_of_ble_eq_true rfl, Nat.le_of_ble_eq_true rfl⟩ [.int v4, .int v8] rfl rfl (Nat.le_of_ble_eq_true rfl) dW_playOn_36 (kH_holdsBit G (m, z) v4 v8) (fun r36 => ?_)
        refine xR_ifeq 39 71 dW_playOn_39 (by decide) ?_ ?_
        · exact kW_playOn_b71 G t t1 ht ht1 z m (fW_playOn_l12 t t1 m n) ih v2 v3 v4 v5 v6 v7 v8
        · exact kW_playOn_b42 G t t1 ht ht1 z m (fW_playOn_l12 t t1 m n) ih v2 v3 v4 v5 v6 v7 v8
set_option maxRecDepth 100000 in
set_option maxHeartbeats 4000000 in
theorem kW_playOn (G : xG) (t : Nat) (t1 : Nat) (ht : t < 4) (ht1 : t1 < 5) (z : xM) (m : xM) (v2 : Int32) (v3 : Int32) (v4 : Int32) : ∀ a, fW_playOn t t1 m v2 v3 v4 = some a → xCt G yyW_playOn [.ref (xa G (77 + t)), .ref (xa G (72 + t1)), .int v2, .int v3, .int v4] (m, z) (some (.int a)) (m, z) := by
  refine xR_ct (em := (emi (m, z))) rfl (Nat.le_of_ble_eq_true rfl) ?_
  show xR G yyW_playOn _ 0 [(0, .ref (xa G (77 + t))), (1, .ref (xa G (72 + t1))), (2, .int v2), (3, .int v3), (4, .int v4)] [] _ _
  unfold fW_playOn
  refine xR_ic 0 (0 : Int32) dW_playOn_0 (by decide) ?_
  refine xR_is 1 ([(5, .int (0 : Int32)), (0, .ref (xa G (77 + t))), (1, .ref (xa G (72 + t1))), (2, .int v2), (3, .int v3), (4, .int v4)]) dW_playOn_1 (by decide) rfl ?_
  refine xR_ic 3 (0 : Int32) dW_playOn_3 (by decide) ?_
  refine xR_is 4 ([(6, .int (0 : Int32)), (5, .int (0 : Int32)), (0, .ref (xa G (77 + t))), (1, .ref (xa G (72 + t1))), (2, .int v2), (3, .int v3), (4, .int v4)]) dW_playOn_4 (by decide) rfl ?_
  refine xR_ic 6 (0 : Int32) dW_playOn_6 (by decide) ?_
  refine xR_is 7 ([(7, .int (0 : Int32)), (6, .int (0 : Int32)), (5, .int (0 : Int32)), (0, .ref (xa G (77 + t))), (1, .ref (xa G (72 + t1))), (2, .int v2), (3, .int v3), (4, .int v4)]) dW_playOn_7 (by decide) rfl ?_
  refine xR_ic 9 (0 : Int32) dW_playOn_9 (by decide) ?_
  refine xR_is 10 ([(8, .int (0 : Int32)), (7, .int (0 : Int32)), (6, .int (0 : Int32)), (5, .int (0 : Int32)), (0, .ref (xa G (77 + t))), (1, .ref (xa G (72 + t1))), (2, .int v2), (3, .int v3), (4, .int v4)]) dW_playOn_10 (by decide) rfl ?_
  exact xR_sub [4, 5, 6, 7, 8, 3, 2, 1, 0] rfl (kW_playOn_l12 G t t1 ht ht1 z m xfu v2 v3 v4 (0 : Int32) (0 : Int32) (0 : Int32) (0 : Int32))
theorem dW_playOf_0 : decode (xb yyW_playOf) 0 = .ok (.aload_n 0, 1) := by decide +kernel
theorem dW_playOf_1 : decode (xb yyW_playOf) 1 = .ok (.aload_n 0, 1) := by decide +kernel
theorem dW_playOf_2 : decode (xb yyW_playOf) 2 = .ok (.getfield 12, 3) := by decide +kernel
theorem dW_playOf_5 : decode (xb yyW_playOf) 5 = .ok (.iload_n 1, 1) := by decide +kernel
theorem dW_playOf_6 : decode (xb yyW_playOf) 6 = .ok (.iload_n 2, 1) := by decide +kernel
theorem dW_playOf_7 : decode (xb yyW_playOf) 7 = .ok (.iconst 0, 1) := by decide +kernel
theorem dW_playOf_8 : decode (xb yyW_playOf) 8 = .ok (.invokevirtual 87, 3) := by decide +kernel
theorem dW_playOf_11 : decode (xb yyW_playOf) 11 = .ok (.ireturn, 1) := by decide +kernel
def fW_playOf (t : Nat) (m : xM) (v1 : Int32) (v2 : Int32) : Option (Int32) := (fW_playOn t t m v1 v2 (0 : Int32)).bind fun r8 => some r8
set_option maxRecDepth 100000 in
set_option maxHeartbeats 4000000 in
theorem kW_playOf (G : xG) (t : Nat) (ht : t < 4) (z : xM) (m : xM) (v1 : Int32) (v2 : Int32) : ∀ a, fW_playOf t m v1 v2 = some a → xCt G yyW_playOf [.ref (xa G (77 + t)), .int v1, .int v2] (m, z) (some (.int a)) (m, z) := by
  refine xR_ct (em := (emi (m, z))) rfl (Nat.le_of_ble_eq_true rfl) ?_
  show xR G yyW_playOf _ 0 [(0, .ref (xa G (77 + t))), (1, .int v1), (2, .int v2)] [] _ _
  unfold fW_playOf
  refine xR_aln 0 0 dW_playOf_0 rfl rfl ?_
  refine xR_aln 1 0 dW_playOf_1 rfl rfl ?_
  refine xR_getf 2 xcf5 0 (77 + t) (by decide) (xk_W ht) (xC_twn ht) (v := .ref (xa G (72 + t))) rfl fl_RX6_12 dW_playOf_2 ?_
  refine xR_iln 5 1 dW_playOf_5 rfl rfl ?_
  refine xR_iln 6 2 dW_playOf_6 rfl rfl ?_
  refine xR_ic 7 (0 : Int32) dW_playOf_7 (by decide) ?_
  refine xR_callVi 8 cv_W_playOn ml_RX6_87 ⟨Nat.le_of_ble_eq_true rfl, Nat.le_of_ble_eq_true rfl⟩ xcf5 rfl (77 + t) (xk_W ht) (xC_twn ht) [.ref (xa G (72 + t)), .int v1, .int v2, .int (0 : Int32)] rfl rfl (Nat.le_of_ble_eq_true rfl) dW_playOf_8 (kW_playOn G t t ht (Nat.lt_of_lt_of_le ht (by decide)) z m v1 v2 (0 : Int32)) (fun r8 => ?_)
  exact xR_iret 11 rfl rfl dW_playOf_11
theorem dW_likeOnes_0 : decode (xb yyW_likeOnes) 0 = .ok (.aload_n 0, 1) := by decide +kernel
theorem dW_likeOnes_1 : decode (xb yyW_likeOnes) 1 = .ok (.iload_n 1, 1) := by decide +kernel
theorem dW_likeOnes_2 : decode (xb yyW_likeOnes) 2 = .ok (.iload_n 2, 1) := by decide +kernel
theorem dW_likeOnes_3 : decode (xb yyW_likeOnes) 3 = .ok (.invokevirtual 118, 3) := by decide +kernel
theorem dW_likeOnes_6 : decode (xb yyW_likeOnes) 6 = .ok (.istore_n 3, 1) := by decide +kernel
theorem dW_likeOnes_7 : decode (xb yyW_likeOnes) 7 = .ok (.iconst 0, 1) := by decide +kernel
theorem dW_likeOnes_8 : decode (xb yyW_likeOnes) 8 = .ok (.istore 4, 2) := by decide +kernel
theorem dW_likeOnes_10 : decode (xb yyW_likeOnes) 10 = .ok (.iconst 0, 1) := by decide +kernel
theorem dW_likeOnes_11 : decode (xb yyW_likeOnes) 11 = .ok (.istore 5, 2) := by decide +kernel
theorem dW_likeOnes_13 : decode (xb yyW_likeOnes) 13 = .ok (.iload 5, 2) := by decide +kernel
theorem dW_likeOnes_15 : decode (xb yyW_likeOnes) 15 = .ok (.aload_n 0, 1) := by decide +kernel
theorem dW_likeOnes_16 : decode (xb yyW_likeOnes) 16 = .ok (.getfield 30, 3) := by decide +kernel
theorem dW_likeOnes_19 : decode (xb yyW_likeOnes) 19 = .ok (.invokevirtual 64, 3) := by decide +kernel
theorem dW_likeOnes_22 : decode (xb yyW_likeOnes) 22 = .ok (.if_icmp .ge 34, 3) := by decide +kernel
theorem dW_likeOnes_25 : decode (xb yyW_likeOnes) 25 = .ok (.aload_n 0, 1) := by decide +kernel
theorem dW_likeOnes_26 : decode (xb yyW_likeOnes) 26 = .ok (.iload 5, 2) := by decide +kernel
theorem dW_likeOnes_28 : decode (xb yyW_likeOnes) 28 = .ok (.iload_n 2, 1) := by decide +kernel
theorem dW_likeOnes_29 : decode (xb yyW_likeOnes) 29 = .ok (.invokevirtual 118, 3) := by decide +kernel
theorem dW_likeOnes_32 : decode (xb yyW_likeOnes) 32 = .ok (.iload_n 3, 1) := by decide +kernel
theorem dW_likeOnes_33 : decode (xb yyW_likeOnes) 33 = .ok (.isub, 1) := by decide +kernel
theorem dW_likeOnes_34 : decode (xb yyW_likeOnes) 34 = .ok (.invokestatic 121, 3) := by decide +kernel
theorem dW_likeOnes_37 : decode (xb yyW_likeOnes) 37 = .ok (.iconst 4, 1) := by decide +kernel
theorem dW_likeOnes_38 : decode (xb yyW_likeOnes) 38 = .ok (.if_icmp .gt 12, 3) := by decide +kernel
theorem dW_likeOnes_41 : decode (xb yyW_likeOnes) 41 = .ok (.iload 4, 2) := by decide +kernel
theorem dW_likeOnes_43 : decode (xb yyW_likeOnes) 43 = .ok (.iconst 1, 1) := by decide +kernel
theorem dW_likeOnes_44 : decode (xb yyW_likeOnes) 44 = .ok (.iload 5, 2) := by decide +kernel
theorem dW_likeOnes_46 : decode (xb yyW_likeOnes) 46 = .ok (.ishl, 1) := by decide +kernel
theorem dW_likeOnes_47 : decode (xb yyW_likeOnes) 47 = .ok (.ior, 1) := by decide +kernel
theorem dW_likeOnes_48 : decode (xb yyW_likeOnes) 48 = .ok (.istore 4, 2) := by decide +kernel
theorem dW_likeOnes_50 : decode (xb yyW_likeOnes) 50 = .ok (.iinc 5 1, 3) := by decide +kernel
theorem dW_likeOnes_53 : decode (xb yyW_likeOnes) 53 = .ok (.goto (-40), 3) := by decide +kernel
theorem dW_likeOnes_56 : decode (xb yyW_likeOnes) 56 = .ok (.iload 4, 2) := by decide +kernel
theorem dW_likeOnes_58 : decode (xb yyW_likeOnes) 58 = .ok (.ireturn, 1) := by decide +kernel
def fW_likeOnes_b50 (t : Nat) (m : xM) (k13 : Int32 → Int32 → Int32 → Int32 → Option (Int32)) (v2 : Int32) (v3 : Int32) (v4 : Int32) (v5 : Int32) : Option (Int32) := k13 v2 v3 v4 (v5 + 1)
def fW_likeOnes_l13 (t : Nat) (m : xM) : Nat → Int32 → Int32 → Int32 → Int32 → Option (Int32)
  | 0, _, _, _, _ => none
  | n + 1, v2, v3, v4, v5 => (fT_many (7 * t + 3) m).bind fun r19 => (if r19 ≤ v5 then some v4 else (fW_playOf t m v5 v2).bind fun r29 => (if (4 : Int32) < (xabs (r29 - v3)) then fW_likeOnes_b50 t m (fW_likeOnes_l13 t m n) v2 v3 v4 v5 else fW_likeOnes_b50 t m (fW_likeOnes_l13 t m n) v2 v3 (v4 ||| ((1 : Int32) <<< (v5 &&& 31))) v5))
def fW_likeOnes (t : Nat) (m : xM) (v1 : Int32) (v2 : Int32) : Option (Int32) := (fW_playOf t m v1 v2).bind fun r3 => fW_likeOnes_l13 t m xfu v2 r3 (0 : Int32) (0 : Int32)
set_option maxRecDepth 100000 in
set_option maxHeartbeats 4000000 in
theorem kW_likeOnes_b50 (G : xG) (t : Nat) (ht : t < 4) (z : xM) (m : xM) (k13 : Int32 → Int32 → Int32 → Int32 → Option (Int32)) (hk13 : ∀ (v2 : Int32) (v3 : Int32) (v4 : Int32) (v5 : Int32), xR G yyW_likeOnes (emi (m, z)) 13 [(0, .ref (xa G (77 + t))), (2, .int v2), (3, .int v3), (4, .int v4), (5, .int v5)] [] (m, z) (k13 v2 v3 v4 v5)) (v2 : Int32) (v3 : Int32) (v4 : Int32) (v5 : Int32) : xR G yyW_likeOnes (emi (m, z)) 50 [(0, .ref (xa G (77 + t))), (2, .int v2), (3, .int v3), (4, .int v4), (5, .int v5)] [] (m, z) (fW_likeOnes_b50 t m k13 v2 v3 v4 v5) := by
  unfold fW_likeOnes_b50
  refine xR_iinc 50 4 (v5 + 1) ([(5, .int (v5 + 1)), (0, .ref (xa G (77 + t))), (2, .int v2), (3, .int v3), (4, .int v4)]) dW_likeOnes_50 rfl rfl (by decide) rfl ?_
  refine xR_goto 53 13 dW_likeOnes_53 (by decide) ?_
  exact xR_sub [1, 2, 3, 4, 0] rfl (hk13 v2 v3 v4 (v5 + 1))
set_option maxRecDepth 100000 in
set_option maxHeartbeats 4000000 in
theorem kW_likeOnes_l13 (G : xG) (t : Nat) (ht : t < 4) (z : xM) (m : xM)   : ∀ (n : Nat) (v2 : Int32) (v3 : Int32) (v4 : Int32) (v5 : Int32), xR G yyW_likeOnes (emi (m, z)) 13 [(0, .ref (xa G (77 + t))), (2, .int v2), (3, .int v3), (4, .int v4), (5, .int v5)] [] (m, z) (fW_likeOnes_l13 t m n v2 v3 v4 v5) := by
  intro n
  induction n with
  | zero =>
    intro v2 v3 v4 v5
    rw [fW_likeOnes_l13]
    exact xR_none
  | succ n ih =>
    intro v2 v3 v4 v5
    rw [fW_likeOnes_l13]
    refine xR_il 13 4 dW_likeOnes_13 rfl ?_
    refine xR_aln 15 0 dW_likeOnes_15 rfl rfl ?_
    refine xR_getf 16 xcf5 3 (77 + t) (by decide) (xk_W ht) (xC_twn ht) (v := .ref (xa G (36 + (7 * t + 3)))) rfl fl_RX6_30 dW_likeOnes_16 ?_
    refine xR_callVi 19 cv_T_many ml_RX6_64 ⟨Nat.le_of_ble_eq_true rfl, Nat.le_of_ble_eq_true rfl⟩ xcf3 rfl (36 + (7 * t + 3)) (xk_T (xtw_lt ht (by decide))) (xC_tab (xtw_lt ht (by decide))) [] rfl rfl (Nat.le_of_ble_eq_true rfl) dW_likeOnes_19 (kT_many G (7 * t + 3) (xtw_lt ht (by decide)) z m) (fun r19 => ?_)
    refine xR_icge 22 56 dW_likeOnes_22 (by decide) ?_ ?_
    · refine xR_il 56 3 dW_likeOnes_56 rfl ?_
      exact xR_iret 58 rfl rfl dW_likeOnes_58
    · refine xR_aln 25 0 dW_likeOnes_25 rfl rfl ?_
      refine xR_il 26 4 dW_likeOnes_26 rfl ?_
      refine xR_iln 28 1 dW_likeOnes_28 rfl rfl ?_
      refine xR_callVi 29 cv_W_playOf ml_RX6_118 ⟨Nat.le_of_ble_eq_true rfl, Nat.le_of_ble_eq_true rfl⟩ xcf5 rfl (77 + t) (xk_W ht) (xC_twn ht) [.int v5, .int v2] rfl rfl (Nat.le_of_ble_eq_true rfl) dW_likeOnes_29 (kW_playOf G t ht z m v5 v2) (fun r29 => ?_)
      refine xR_iln 32 2 dW_likeOnes_32 rfl rfl ?_
      refine xR_isub 33 dW_likeOnes_33 ?_
      refine xR_mabs 34 ml_RX6_121 ⟨Nat.le_of_ble_eq_true rfl, Nat.le_of_ble_eq_true rfl⟩ dW_likeOnes_34 ?_
      refine xR_ic 37 (4 : Int32) dW_likeOnes_37 (by decide) ?_
      refine xR_icgt 38 50 dW_likeOnes_38 (by decide) ?_ ?_
      · exact kW_likeOnes_b50 G t ht z m (fW_likeOnes_l13 t m n) ih v2 v3 v4 v5
      · refine xR_il 41 3 dW_likeOnes_41 rfl ?_
        refine xR_ic 43 (1 : Int32) dW_likeOnes_43 (by decide) ?_
        refine xR_il 44 4 dW_likeOnes_44 rfl ?_
        refine xR_ishl 46 dW_likeOnes_46 ?_
        refine xR_ior 47 dW_likeOnes_47 ?_
        refine xR_is 48 ([(4, .int (v4 ||| ((1 : Int32) <<< (v5 &&& 31)))), (0, .ref (xa G (77 + t))), (2, .int v2), (3, .int v3), (5, .int v5)]) dW_likeOnes_48 (by decide) rfl ?_
        exact xR_sub [1, 2, 3, 0, 4] rfl (kW_likeOnes_b50 G t ht z m (fW_likeOnes_l13 t m n) ih v2 v3 (v4 ||| ((1 : Int32) <<< (v5 &&& 31))) v5)
set_option maxRecDepth 100000 in
set_option maxHeartbeats 4000000 in
theorem kW_likeOnes (G : xG) (t : Nat) (ht : t < 4) (z : xM) (m : xM) (v1 : Int32) (v2 : Int32) : ∀ a, fW_likeOnes t m v1 v2 = some a → xCt G yyW_likeOnes [.ref (xa G (77 + t)), .int v1, .int v2] (m, z) (some (.int a)) (m, z) := by
  refine xR_ct (em := (emi (m, z))) rfl (Nat.le_of_ble_eq_true rfl) ?_
  show xR G yyW_likeOnes _ 0 [(0, .ref (xa G (77 + t))), (1, .int v1), (2, .int v2)] [] _ _
  unfold fW_likeOnes
  refine xR_aln 0 0 dW_likeOnes_0 rfl rfl ?_
  refine xR_iln 1 1 dW_likeOnes_1 rfl rfl ?_
  refine xR_iln 2 2 dW_likeOnes_2 rfl rfl ?_
  refine xR_callVi 3 cv_W_playOf ml_RX6_118 ⟨Nat.le_of_ble_eq_true rfl, Nat.le_of_ble_eq_true rfl⟩ xcf5 rfl (77 + t) (xk_W ht) (xC_twn ht) [.int v1, .int v2] rfl rfl (Nat.le_of_ble_eq_true rfl) dW_likeOnes_3 (kW_playOf G t ht z m v1 v2) (fun r3 => ?_)
  refine xR_isn 6 ([(3, .int r3), (0, .ref (xa G (77 + t))), (1, .int v1), (2, .int v2)]) dW_likeOnes_6 rfl (by decide) rfl ?_
  refine xR_ic 7 (0 : Int32) dW_likeOnes_7 (by decide) ?_
  refine xR_is 8 ([(4, .int (0 : Int32)), (3, .int r3), (0, .ref (xa G (77 + t))), (1, .int v1), (2, .int v2)]) dW_likeOnes_8 (by decide) rfl ?_
  refine xR_ic 10 (0 : Int32) dW_likeOnes_10 (by decide) ?_
  refine xR_is 11 ([(5, .int (0 : Int32)), (4, .int (0 : Int32)), (3, .int r3), (0, .ref (xa G (77 + t))), (1, .int v1), (2, .int v2)]) dW_likeOnes_11 (by decide) rfl ?_
  exact xR_sub [3, 5, 2, 1, 0] rfl (kW_likeOnes_l13 G t ht z m xfu v2 r3 (0 : Int32) (0 : Int32))
theorem dW_soundsAsHeard_0 : decode (xb yyW_soundsAsHeard) 0 = .ok (.iconst 0, 1) := by decide +kernel
theorem dW_soundsAsHeard_1 : decode (xb yyW_soundsAsHeard) 1 = .ok (.istore_n 2, 1) := by decide +kernel
theorem dW_soundsAsHeard_2 : decode (xb yyW_soundsAsHeard) 2 = .ok (.iload_n 2, 1) := by decide +kernel
theorem dW_soundsAsHeard_3 : decode (xb yyW_soundsAsHeard) 3 = .ok (.aload_n 0, 1) := by decide +kernel
theorem dW_soundsAsHeard_4 : decode (xb yyW_soundsAsHeard) 4 = .ok (.getfield 33, 3) := by decide +kernel
theorem dW_soundsAsHeard_7 : decode (xb yyW_soundsAsHeard) 7 = .ok (.invokevirtual 64, 3) := by decide +kernel
theorem dW_soundsAsHeard_10 : decode (xb yyW_soundsAsHeard) 10 = .ok (.if_icmp .ge 40, 3) := by decide +kernel
theorem dW_soundsAsHeard_13 : decode (xb yyW_soundsAsHeard) 13 = .ok (.aload_n 0, 1) := by decide +kernel
theorem dW_soundsAsHeard_14 : decode (xb yyW_soundsAsHeard) 14 = .ok (.getfield 12, 3) := by decide +kernel
theorem dW_soundsAsHeard_17 : decode (xb yyW_soundsAsHeard) 17 = .ok (.iload_n 1, 1) := by decide +kernel
theorem dW_soundsAsHeard_18 : decode (xb yyW_soundsAsHeard) 18 = .ok (.aload_n 0, 1) := by decide +kernel
theorem dW_soundsAsHeard_19 : decode (xb yyW_soundsAsHeard) 19 = .ok (.getfield 33, 3) := by decide +kernel
theorem dW_soundsAsHeard_22 : decode (xb yyW_soundsAsHeard) 22 = .ok (.iload_n 2, 1) := by decide +kernel
theorem dW_soundsAsHeard_23 : decode (xb yyW_soundsAsHeard) 23 = .ok (.iconst 0, 1) := by decide +kernel
theorem dW_soundsAsHeard_24 : decode (xb yyW_soundsAsHeard) 24 = .ok (.invokevirtual 103, 3) := by decide +kernel
theorem dW_soundsAsHeard_27 : decode (xb yyW_soundsAsHeard) 27 = .ok (.invokevirtual 100, 3) := by decide +kernel
theorem dW_soundsAsHeard_30 : decode (xb yyW_soundsAsHeard) 30 = .ok (.aload_n 0, 1) := by decide +kernel
theorem dW_soundsAsHeard_31 : decode (xb yyW_soundsAsHeard) 31 = .ok (.getfield 33, 3) := by decide +kernel
theorem dW_soundsAsHeard_34 : decode (xb yyW_soundsAsHeard) 34 = .ok (.iload_n 2, 1) := by decide +kernel
theorem dW_soundsAsHeard_35 : decode (xb yyW_soundsAsHeard) 35 = .ok (.iconst 1, 1) := by decide +kernel
theorem dW_soundsAsHeard_36 : decode (xb yyW_soundsAsHeard) 36 = .ok (.invokevirtual 103, 3) := by decide +kernel
theorem dW_soundsAsHeard_39 : decode (xb yyW_soundsAsHeard) 39 = .ok (.if_icmp .eq 5, 3) := by decide +kernel
theorem dW_soundsAsHeard_42 : decode (xb yyW_soundsAsHeard) 42 = .ok (.iconst 0, 1) := by decide +kernel
theorem dW_soundsAsHeard_43 : decode (xb yyW_soundsAsHeard) 43 = .ok (.ireturn, 1) := by decide +kernel
theorem dW_soundsAsHeard_44 : decode (xb yyW_soundsAsHeard) 44 = .ok (.iinc 2 1, 3) := by decide +kernel
theorem dW_soundsAsHeard_47 : decode (xb yyW_soundsAsHeard) 47 = .ok (.goto (-45), 3) := by decide +kernel
theorem dW_soundsAsHeard_50 : decode (xb yyW_soundsAsHeard) 50 = .ok (.iconst 1, 1) := by decide +kernel
theorem dW_soundsAsHeard_51 : decode (xb yyW_soundsAsHeard) 51 = .ok (.ireturn, 1) := by decide +kernel
def fW_soundsAsHeard_l2 (t : Nat) (m : xM) : Nat → Int32 → Int32 → Option (Int32)
  | 0, _, _ => none
  | n + 1, v1, v2 => (fT_many (7 * t + 4) m).bind fun r7 => (if r7 ≤ v2 then some (xnb (1 : Int32)) else (fT_get (7 * t + 4) m v2 (0 : Int32)).bind fun r24 => (fB_soundOf t m v1 r24).bind fun r27 => (fT_get (7 * t + 4) m v2 (1 : Int32)).bind fun r36 => (if r27 = r36 then fW_soundsAsHeard_l2 t m n v1 (v2 + 1) else some (xnb (0 : Int32))))
def fW_soundsAsHeard (t : Nat) (m : xM) (v1 : Int32) : Option (Int32) := fW_soundsAsHeard_l2 t m xfu v1 (0 : Int32)
set_option maxRecDepth 100000 in
set_option maxHeartbeats 4000000 in
theorem kW_soundsAsHeard_l2 (G : xG) (t : Nat) (ht : t < 4) (z : xM) (m : xM)   : ∀ (n : Nat) (v1 : Int32) (v2 : Int32), xR G yyW_soundsAsHeard (emi (m, z)) 2 [(0, .ref (xa G (77 + t))), (1, .int v1), (2, .int v2)] [] (m, z) (fW_soundsAsHeard_l2 t m n v1 v2) := by
  intro n
  induction n with
  | zero =>
    intro v1 v2
    rw [fW_soundsAsHeard_l2]
    exact xR_none
  | succ n ih =>
    intro v1 v2
    rw [fW_soundsAsHeard_l2]
    refine xR_iln 2 2 dW_soundsAsHeard_2 rfl rfl ?_
    refine xR_aln 3 0 dW_soundsAsHeard_3 rfl rfl ?_
    refine xR_getf 4 xcf5 4 (77 + t) (by decide) (xk_W ht) (xC_twn ht) (v := .ref (xa G (36 + (7 * t + 4)))) rfl fl_RX6_33 dW_soundsAsHeard_4 ?_
    refine xR_callVi 7 cv_T_many ml_RX6_64 ⟨Nat.le_of_ble_eq_true rfl, Nat.le_of_ble_eq_true rfl⟩ xcf3 rfl (36 + (7 * t + 4)) (xk_T (xtw_lt ht (by decide))) (xC_tab (xtw_lt ht (by decide))) [] rfl rfl (Nat.le_of_ble_eq_true rfl) dW_soundsAsHeard_7 (kT_many G (7 * t + 4) (xtw_lt ht (by decide)) z m) (fun r7 => ?_)
    refine xR_icge 10 50 dW_soundsAsHeard_10 (by decide) ?_ ?_
    · refine xR_ic 50 (1 : Int32) dW_soundsAsHeard_50 (by decide) ?_
      exact xR_zret 51 rfl rfl dW_soundsAsHeard_51
    · refine xR_aln 13 0 dW_soundsAsHeard_13 rfl rfl ?_
      refine xR_getf 14 xcf5 0 (77 + t) (by decide) (xk_W ht) (xC_twn ht) (v := .ref (xa G (72 + t))) rfl fl_RX6_12 dW_soundsAsHeard_14 ?_
      refine xR_iln 17 1 dW_soundsAsHeard_17 rfl rfl ?_
      refine xR_aln 18 0 dW_soundsAsHeard_18 rfl rfl ?_
      refine xR_getf 19 xcf5 4 (77 + t) (by decide) (xk_W ht) (xC_twn ht) (v := .ref (xa G (36 + (7 * t + 4)))) rfl fl_RX6_33 dW_soundsAsHeard_19 ?_
      refine xR_iln 22 2 dW_soundsAsHeard_22 rfl rfl ?_
      refine xR_ic 23 (0 : Int32) dW_soundsAsHeard_23 (by decide) ?_
      refine xR_callVi 24 cv_T_get ml_RX6_103 ⟨Nat.le_of_ble_eq_true rfl, Nat.le_of_ble_eq_true rfl⟩ xcf3 rfl (36 + (7 * t + 4)) (xk_T (xtw_lt ht (by decide))) (xC_tab (xtw_lt ht (by decide))) [.int v2, .int (0 : Int32)] rfl rfl (Nat.le_of_ble_eq_true rfl) dW_soundsAsHeard_24 (kT_get G (7 * t + 4) (xtw_lt ht (by decide)) z m v2 (0 : Int32)) (fun r24 => ?_)
      refine xR_callVi 27 cv_B_soundOf ml_RX6_100 ⟨Nat.le_of_ble_eq_true rfl, Nat.le_of_ble_eq_true rfl⟩ xcf0 rfl (72 + t) (xk_B (Nat.lt_of_lt_of_le ht (by decide))) (xC_brd (Nat.lt_of_lt_of_le ht (by decide))) [.int v1, .int r24] rfl rfl (Nat.le_of_ble_eq_true rfl) dW_soundsAsHeard_27 (kB_soundOf G t (Nat.lt_of_lt_of_le ht (by decide)) z m v1 r24) (fun r27 => ?_)
      refine xR_aln 30 0 dW_soundsAsHeard_30 rfl rfl ?_
      refine xR_getf 31 xcf5 4 (77 + t) (by decide) (xk_W ht) (xC_twn ht) (v := .ref (xa G (36 + (7 * t + 4)))) rfl fl_RX6_33 dW_soundsAsHeard_31 ?_
      refine xR_iln 34 2 dW_soundsAsHeard_34 rfl rfl ?_
      refine xR_ic 35 (1 : Int32) dW_soundsAsHeard_35 (by decide) ?_
      refine xR_callVi 36 cv_T_get ml_RX6_103 ⟨Nat.le_of_ble_eq_true rfl, Nat.le_of_ble_eq_true rfl⟩ xcf3 rfl (36 + (7 * t + 4)) (xk_T (xtw_lt ht (by decide))) (xC_tab (xtw_lt ht (by decide))) [.int v2, .int (1 : Int32)] rfl rfl (Nat.le_of_ble_eq_true rfl) dW_soundsAsHeard_36 (kT_get G (7 * t + 4) (xtw_lt ht (by decide)) z m v2 (1 : Int32)) (fun r36 => ?_)
      refine xR_iceq 39 44 dW_soundsAsHeard_39 (by decide) ?_ ?_
      · refine xR_iinc 44 2 (v2 + 1) ([(2, .int (v2 + 1)), (0, .ref (xa G (77 + t))), (1, .int v1)]) dW_soundsAsHeard_44 rfl rfl (by decide) rfl ?_
        refine xR_goto 47 2 dW_soundsAsHeard_47 (by decide) ?_
        exact xR_sub [1, 2, 0] rfl (ih v1 (v2 + 1))
      · refine xR_ic 42 (0 : Int32) dW_soundsAsHeard_42 (by decide) ?_
        exact xR_zret 43 rfl rfl dW_soundsAsHeard_43
set_option maxRecDepth 100000 in
set_option maxHeartbeats 4000000 in
theorem kW_soundsAsHeard (G : xG) (t : Nat) (ht : t < 4) (z : xM) (m : xM) (v1 : Int32) : ∀ a, fW_soundsAsHeard t m v1 = some a → xCt G yyW_soundsAsHeard [.ref (xa G (77 + t)), .int v1] (m, z) (some (.int a)) (m, z) := by
  refine xR_ct (em := (emi (m, z))) rfl (Nat.le_of_ble_eq_true rfl) ?_
  show xR G yyW_soundsAsHeard _ 0 [(0, .ref (xa G (77 + t))), (1, .int v1)] [] _ _
  unfold fW_soundsAsHeard
  refine xR_ic 0 (0 : Int32) dW_soundsAsHeard_0 (by decide) ?_
  refine xR_isn 1 ([(2, .int (0 : Int32)), (0, .ref (xa G (77 + t))), (1, .int v1)]) dW_soundsAsHeard_1 rfl (by decide) rfl ?_
  exact xR_sub [1, 2, 0] rfl (kW_soundsAsHeard_l2 G t ht z m xfu v1 (0 : Int32))
theorem dW_heardBoards_0 : decode (xb yyW_heardBoards) 0 = .ok (.iconst 0, 1) := by decide +kernel
theorem dW_heardBoards_1 : decode (xb yyW_heardBoards) 1 = .ok (.istore_n 1, 1) := by decide +kernel
theorem dW_heardBoards_2 : decode (xb yyW_heardBoards) 2 = .ok (.iconst 0, 1) := by decide +kernel
theorem dW_heardBoards_3 : decode (xb yyW_heardBoards) 3 = .ok (.istore_n 2, 1) := by decide +kernel
theorem dW_heardBoards_4 : decode (xb yyW_heardBoards) 4 = .ok (.iload_n 2, 1) := by decide +kernel
theorem dW_heardBoards_5 : decode (xb yyW_heardBoards) 5 = .ok (.aload_n 0, 1) := by decide +kernel
theorem dW_heardBoards_6 : decode (xb yyW_heardBoards) 6 = .ok (.getfield 12, 3) := by decide +kernel
theorem dW_heardBoards_9 : decode (xb yyW_heardBoards) 9 = .ok (.invokevirtual 91, 3) := by decide +kernel
theorem dW_heardBoards_12 : decode (xb yyW_heardBoards) 12 = .ok (.if_icmp .ge 23, 3) := by decide +kernel
theorem dW_heardBoards_15 : decode (xb yyW_heardBoards) 15 = .ok (.aload_n 0, 1) := by decide +kernel
theorem dW_heardBoards_16 : decode (xb yyW_heardBoards) 16 = .ok (.iload_n 2, 1) := by decide +kernel
theorem dW_heardBoards_17 : decode (xb yyW_heardBoards) 17 = .ok (.invokevirtual 126, 3) := by decide +kernel
theorem dW_heardBoards_20 : decode (xb yyW_heardBoards) 20 = .ok (.ifCond .eq 9, 3) := by decide +kernel
theorem dW_heardBoards_23 : decode (xb yyW_heardBoards) 23 = .ok (.iload_n 1, 1) := by decide +kernel
theorem dW_heardBoards_24 : decode (xb yyW_heardBoards) 24 = .ok (.iconst 1, 1) := by decide +kernel
theorem dW_heardBoards_25 : decode (xb yyW_heardBoards) 25 = .ok (.iload_n 2, 1) := by decide +kernel
theorem dW_heardBoards_26 : decode (xb yyW_heardBoards) 26 = .ok (.ishl, 1) := by decide +kernel
theorem dW_heardBoards_27 : decode (xb yyW_heardBoards) 27 = .ok (.ior, 1) := by decide +kernel
theorem dW_heardBoards_28 : decode (xb yyW_heardBoards) 28 = .ok (.istore_n 1, 1) := by decide +kernel
theorem dW_heardBoards_29 : decode (xb yyW_heardBoards) 29 = .ok (.iinc 2 1, 3) := by decide +kernel
theorem dW_heardBoards_32 : decode (xb yyW_heardBoards) 32 = .ok (.goto (-28), 3) := by decide +kernel
theorem dW_heardBoards_35 : decode (xb yyW_heardBoards) 35 = .ok (.iload_n 1, 1) := by decide +kernel
theorem dW_heardBoards_36 : decode (xb yyW_heardBoards) 36 = .ok (.ireturn, 1) := by decide +kernel
def fW_heardBoards_b29 (t : Nat) (m : xM) (k4 : Int32 → Int32 → Option (Int32)) (v1 : Int32) (v2 : Int32) : Option (Int32) := k4 v1 (v2 + 1)
def fW_heardBoards_l4 (t : Nat) (m : xM) : Nat → Int32 → Int32 → Option (Int32)
  | 0, _, _ => none
  | n + 1, v1, v2 => (fB_many t m).bind fun r9 => (if r9 ≤ v2 then some v1 else (fW_soundsAsHeard t m v2).bind fun r17 => (if r17 = 0 then fW_heardBoards_b29 t m (fW_heardBoards_l4 t m n) v1 v2 else fW_heardBoards_b29 t m (fW_heardBoards_l4 t m n) (v1 ||| ((1 : Int32) <<< (v2 &&& 31))) v2))
def fW_heardBoards (t : Nat) (m : xM) : Option (Int32) := fW_heardBoards_l4 t m xfu (0 : Int32) (0 : Int32)
set_option maxRecDepth 100000 in
set_option maxHeartbeats 4000000 in
theorem kW_heardBoards_b29 (G : xG) (t : Nat) (ht : t < 4) (z : xM) (m : xM) (k4 : Int32 → Int32 → Option (Int32)) (hk4 : ∀ (v1 : Int32) (v2 : Int32), xR G yyW_heardBoards (emi (m, z)) 4 [(0, .ref (xa G (77 + t))), (1, .int v1), (2, .int v2)] [] (m, z) (k4 v1 v2)) (v1 : Int32) (v2 : Int32) : xR G yyW_heardBoards (emi (m, z)) 29 [(0, .ref (xa G (77 + t))), (1, .int v1), (2, .int v2)] [] (m, z) (fW_heardBoards_b29 t m k4 v1 v2) := by
  unfold fW_heardBoards_b29
  refine xR_iinc 29 2 (v2 + 1) ([(2, .int (v2 + 1)), (0, .ref (xa G (77 + t))), (1, .int v1)]) dW_heardBoards_29 rfl rfl (by decide) rfl ?_
  refine xR_goto 32 4 dW_heardBoards_32 (by decide) ?_
  exact xR_sub [1, 2, 0] rfl (hk4 v1 (v2 + 1))
set_option maxRecDepth 100000 in
set_option maxHeartbeats 4000000 in
theorem kW_heardBoards_l4 (G : xG) (t : Nat) (ht : t < 4) (z : xM) (m : xM)   : ∀ (n : Nat) (v1 : Int32) (v2 : Int32), xR G yyW_heardBoards (emi (m, z)) 4 [(0, .ref (xa G (77 + t))), (1, .int v1), (2, .int v2)] [] (m, z) (fW_heardBoards_l4 t m n v1 v2) := by
  intro n
  induction n with
  | zero =>
    intro v1 v2
    rw [fW_heardBoards_l4]
    exact xR_none
  | succ n ih =>
    intro v1 v2
    rw [fW_heardBoards_l4]
    refine xR_iln 4 2 dW_heardBoards_4 rfl rfl ?_
    refine xR_aln 5 0 dW_heardBoards_5 rfl rfl ?_
    refine xR_getf 6 xcf5 0 (77 + t) (by decide) (xk_W ht) (xC_twn ht) (v := .ref (xa G (72 + t))) rfl fl_RX6_12 dW_heardBoards_6 ?_
    refine xR_callVi 9 cv_B_many ml_RX6_91 ⟨Nat.le_of_ble_eq_true rfl, Nat.le_of_ble_eq_true rfl⟩ xcf0 rfl (72 + t) (xk_B (Nat.lt_of_lt_of_le ht (by decide))) (xC_brd (Nat.lt_of_lt_of_le ht (by decide))) [] rfl rfl (Nat.le_of_ble_eq_true rfl) dW_heardBoards_9 (kB_many G t (Nat.lt_of_lt_of_le ht (by decide)) z m) (fun r9 => ?_)
    refine xR_icge 12 35 dW_heardBoards_12 (by decide) ?_ ?_
    · refine xR_iln 35 1 dW_heardBoards_35 rfl rfl ?_
      exact xR_iret 36 rfl rfl dW_heardBoards_36
    · refine xR_aln 15 0 dW_heardBoards_15 rfl rfl ?_
      refine xR_iln 16 2 dW_heardBoards_16 rfl rfl ?_
      refine xR_callVi 17 cv_W_soundsAsHeard ml_RX6_126 ⟨Nat.le_of_ble_eq_true rfl, Nat.le_of_ble_eq_true rfl⟩ xcf5 rfl (77 + t) (xk_W ht) (xC_twn ht) [.int v2] rfl rfl (Nat.le_of_ble_eq_true rfl) dW_heardBoards_17 (kW_soundsAsHeard G t ht z m v2) (fun r17 => ?_)
      refine xR_ifeq 20 29 dW_heardBoards_20 (by decide) ?_ ?_
      · exact kW_heardBoards_b29 G t ht z m (fW_heardBoards_l4 t m n) ih v1 v2
      · refine xR_iln 23 1 dW_heardBoards_23 rfl rfl ?_
        refine xR_ic 24 (1 : Int32) dW_heardBoards_24 (by decide) ?_
        refine xR_iln 25 2 dW_heardBoards_25 rfl rfl ?_
        refine xR_ishl 26 dW_heardBoards_26 ?_
        refine xR_ior 27 dW_heardBoards_27 ?_
        refine xR_isn 28 ([(1, .int (v1 ||| ((1 : Int32) <<< (v2 &&& 31)))), (0, .ref (xa G (77 + t))), (2, .int v2)]) dW_heardBoards_28 rfl (by decide) rfl ?_
        exact xR_sub [1, 0, 2] rfl (kW_heardBoards_b29 G t ht z m (fW_heardBoards_l4 t m n) ih (v1 ||| ((1 : Int32) <<< (v2 &&& 31))) v2)
set_option maxRecDepth 100000 in
set_option maxHeartbeats 4000000 in
theorem kW_heardBoards (G : xG) (t : Nat) (ht : t < 4) (z : xM) (m : xM) : ∀ a, fW_heardBoards t m  = some a → xCt G yyW_heardBoards [.ref (xa G (77 + t))] (m, z) (some (.int a)) (m, z) := by
  refine xR_ct (em := (emi (m, z))) rfl (Nat.le_of_ble_eq_true rfl) ?_
  show xR G yyW_heardBoards _ 0 [(0, .ref (xa G (77 + t)))] [] _ _
  unfold fW_heardBoards
  refine xR_ic 0 (0 : Int32) dW_heardBoards_0 (by decide) ?_
  refine xR_isn 1 ([(1, .int (0 : Int32)), (0, .ref (xa G (77 + t)))]) dW_heardBoards_1 rfl (by decide) rfl ?_
  refine xR_ic 2 (0 : Int32) dW_heardBoards_2 (by decide) ?_
  refine xR_isn 3 ([(2, .int (0 : Int32)), (1, .int (0 : Int32)), (0, .ref (xa G (77 + t)))]) dW_heardBoards_3 rfl (by decide) rfl ?_
  exact xR_sub [2, 1, 0] rfl (kW_heardBoards_l4 G t ht z m xfu (0 : Int32) (0 : Int32))
theorem dW_soundsAsNoted_0 : decode (xb yyW_soundsAsNoted) 0 = .ok (.iconst 0, 1) := by decide +kernel
theorem dW_soundsAsNoted_1 : decode (xb yyW_soundsAsNoted) 1 = .ok (.istore_n 3, 1) := by decide +kernel
theorem dW_soundsAsNoted_2 : decode (xb yyW_soundsAsNoted) 2 = .ok (.iload_n 3, 1) := by decide +kernel
theorem dW_soundsAsNoted_3 : decode (xb yyW_soundsAsNoted) 3 = .ok (.aload_n 0, 1) := by decide +kernel
theorem dW_soundsAsNoted_4 : decode (xb yyW_soundsAsNoted) 4 = .ok (.getfield 36, 3) := by decide +kernel
theorem dW_soundsAsNoted_7 : decode (xb yyW_soundsAsNoted) 7 = .ok (.invokevirtual 64, 3) := by decide +kernel
theorem dW_soundsAsNoted_10 : decode (xb yyW_soundsAsNoted) 10 = .ok (.if_icmp .ge 71, 3) := by decide +kernel
theorem dW_soundsAsNoted_13 : decode (xb yyW_soundsAsNoted) 13 = .ok (.iload_n 1, 1) := by decide +kernel
theorem dW_soundsAsNoted_14 : decode (xb yyW_soundsAsNoted) 14 = .ok (.aload_n 0, 1) := by decide +kernel
theorem dW_soundsAsNoted_15 : decode (xb yyW_soundsAsNoted) 15 = .ok (.getfield 36, 3) := by decide +kernel
theorem dW_soundsAsNoted_18 : decode (xb yyW_soundsAsNoted) 18 = .ok (.iload_n 3, 1) := by decide +kernel
theorem dW_soundsAsNoted_19 : decode (xb yyW_soundsAsNoted) 19 = .ok (.iconst 3, 1) := by decide +kernel
theorem dW_soundsAsNoted_20 : decode (xb yyW_soundsAsNoted) 20 = .ok (.invokevirtual 103, 3) := by decide +kernel
theorem dW_soundsAsNoted_23 : decode (xb yyW_soundsAsNoted) 23 = .ok (.aload_n 0, 1) := by decide +kernel
theorem dW_soundsAsNoted_24 : decode (xb yyW_soundsAsNoted) 24 = .ok (.getfield 36, 3) := by decide +kernel
theorem dW_soundsAsNoted_27 : decode (xb yyW_soundsAsNoted) 27 = .ok (.iload_n 3, 1) := by decide +kernel
theorem dW_soundsAsNoted_28 : decode (xb yyW_soundsAsNoted) 28 = .ok (.iconst 1, 1) := by decide +kernel
theorem dW_soundsAsNoted_29 : decode (xb yyW_soundsAsNoted) 29 = .ok (.invokevirtual 103, 3) := by decide +kernel
theorem dW_soundsAsNoted_32 : decode (xb yyW_soundsAsNoted) 32 = .ok (.aload_n 0, 1) := by decide +kernel
theorem dW_soundsAsNoted_33 : decode (xb yyW_soundsAsNoted) 33 = .ok (.getfield 36, 3) := by decide +kernel
theorem dW_soundsAsNoted_36 : decode (xb yyW_soundsAsNoted) 36 = .ok (.iload_n 3, 1) := by decide +kernel
theorem dW_soundsAsNoted_37 : decode (xb yyW_soundsAsNoted) 37 = .ok (.iconst 2, 1) := by decide +kernel
theorem dW_soundsAsNoted_38 : decode (xb yyW_soundsAsNoted) 38 = .ok (.invokevirtual 103, 3) := by decide +kernel
theorem dW_soundsAsNoted_41 : decode (xb yyW_soundsAsNoted) 41 = .ok (.invokestatic 133, 3) := by decide +kernel
theorem dW_soundsAsNoted_44 : decode (xb yyW_soundsAsNoted) 44 = .ok (.istore 4, 2) := by decide +kernel
theorem dW_soundsAsNoted_46 : decode (xb yyW_soundsAsNoted) 46 = .ok (.aload_n 0, 1) := by decide +kernel
theorem dW_soundsAsNoted_47 : decode (xb yyW_soundsAsNoted) 47 = .ok (.getfield 36, 3) := by decide +kernel
theorem dW_soundsAsNoted_50 : decode (xb yyW_soundsAsNoted) 50 = .ok (.iload_n 3, 1) := by decide +kernel
theorem dW_soundsAsNoted_51 : decode (xb yyW_soundsAsNoted) 51 = .ok (.iconst 0, 1) := by decide +kernel
theorem dW_soundsAsNoted_52 : decode (xb yyW_soundsAsNoted) 52 = .ok (.invokevirtual 103, 3) := by decide +kernel
theorem dW_soundsAsNoted_55 : decode (xb yyW_soundsAsNoted) 55 = .ok (.iload_n 2, 1) := by decide +kernel
theorem dW_soundsAsNoted_56 : decode (xb yyW_soundsAsNoted) 56 = .ok (.if_icmp .ne 19, 3) := by decide +kernel
theorem dW_soundsAsNoted_59 : decode (xb yyW_soundsAsNoted) 59 = .ok (.iload 4, 2) := by decide +kernel
theorem dW_soundsAsNoted_61 : decode (xb yyW_soundsAsNoted) 61 = .ok (.aload_n 0, 1) := by decide +kernel
theorem dW_soundsAsNoted_62 : decode (xb yyW_soundsAsNoted) 62 = .ok (.getfield 36, 3) := by decide +kernel
theorem dW_soundsAsNoted_65 : decode (xb yyW_soundsAsNoted) 65 = .ok (.iload_n 3, 1) := by decide +kernel
theorem dW_soundsAsNoted_66 : decode (xb yyW_soundsAsNoted) 66 = .ok (.iconst 4, 1) := by decide +kernel
theorem dW_soundsAsNoted_67 : decode (xb yyW_soundsAsNoted) 67 = .ok (.invokevirtual 103, 3) := by decide +kernel
theorem dW_soundsAsNoted_70 : decode (xb yyW_soundsAsNoted) 70 = .ok (.if_icmp .eq 5, 3) := by decide +kernel
theorem dW_soundsAsNoted_73 : decode (xb yyW_soundsAsNoted) 73 = .ok (.iconst 0, 1) := by decide +kernel
theorem dW_soundsAsNoted_74 : decode (xb yyW_soundsAsNoted) 74 = .ok (.ireturn, 1) := by decide +kernel
theorem dW_soundsAsNoted_75 : decode (xb yyW_soundsAsNoted) 75 = .ok (.iinc 3 1, 3) := by decide +kernel
theorem dW_soundsAsNoted_78 : decode (xb yyW_soundsAsNoted) 78 = .ok (.goto (-76), 3) := by decide +kernel
theorem dW_soundsAsNoted_81 : decode (xb yyW_soundsAsNoted) 81 = .ok (.iconst 1, 1) := by decide +kernel
theorem dW_soundsAsNoted_82 : decode (xb yyW_soundsAsNoted) 82 = .ok (.ireturn, 1) := by decide +kernel
def fW_soundsAsNoted_b75 (t : Nat) (m : xM) (k2 : Int32 → Int32 → Int32 → Option (Int32)) (v1 : Int32) (v2 : Int32) (v3 : Int32) : Option (Int32) := k2 v1 v2 (v3 + 1)
def fW_soundsAsNoted_l2 (t : Nat) (m : xM) : Nat → Int32 → Int32 → Int32 → Option (Int32)
  | 0, _, _, _ => none
  | n + 1, v1, v2, v3 => (fT_many (7 * t + 5) m).bind fun r7 => (if r7 ≤ v3 then some (xnb (1 : Int32)) else (fT_get (7 * t + 5) m v3 (3 : Int32)).bind fun r20 => (fT_get (7 * t + 5) m v3 (1 : Int32)).bind fun r29 => (fT_get (7 * t + 5) m v3 (2 : Int32)).bind fun r38 => (fD_soundBy v1 r20 r29 r38).bind fun r41 => (fT_get (7 * t + 5) m v3 (0 : Int32)).bind fun r52 => (if r52 = v2 then (fT_get (7 * t + 5) m v3 (4 : Int32)).bind fun r67 => (if r41 = r67 then fW_soundsAsNoted_b75 t m (fW_soundsAsNoted_l2 t m n) v1 v2 v3 else some (xnb (0 : Int32))) else fW_soundsAsNoted_b75 t m (fW_soundsAsNoted_l2 t m n) v1 v2 v3))
def fW_soundsAsNoted (t : Nat) (m : xM) (v1 : Int32) (v2 : Int32) : Option (Int32) := fW_soundsAsNoted_l2 t m xfu v1 v2 (0 : Int32)
set_option maxRecDepth 100000 in
set_option maxHeartbeats 4000000 in
theorem kW_soundsAsNoted_b75 (G : xG) (t : Nat) (ht : t < 4) (z : xM) (m : xM) (k2 : Int32 → Int32 → Int32 → Option (Int32)) (hk2 : ∀ (v1 : Int32) (v2 : Int32) (v3 : Int32), xR G yyW_soundsAsNoted (emi (m, z)) 2 [(0, .ref (xa G (77 + t))), (1, .int v1), (2, .int v2), (3, .int v3)] [] (m, z) (k2 v1 v2 v3)) (v1 : Int32) (v2 : Int32) (v3 : Int32) : xR G yyW_soundsAsNoted (emi (m, z)) 75 [(0, .ref (xa G (77 + t))), (1, .int v1), (2, .int v2), (3, .int v3)] [] (m, z) (fW_soundsAsNoted_b75 t m k2 v1 v2 v3) := by
  unfold fW_soundsAsNoted_b75
  refine xR_iinc 75 3 (v3 + 1) ([(3, .int (v3 + 1)), (0, .ref (xa G (77 + t))), (1, .int v1), (2, .int v2)]) dW_soundsAsNoted_75 rfl rfl (by decide) rfl ?_
  refine xR_goto 78 2 dW_soundsAsNoted_78 (by decide) ?_
  exact xR_sub [1, 2, 3, 0] rfl (hk2 v1 v2 (v3 + 1))
set_option maxRecDepth 100000 in
set_option maxHeartbeats 4000000 in
theorem kW_soundsAsNoted_l2 (G : xG) (t : Nat) (ht : t < 4) (z : xM) (m : xM)   : ∀ (n : Nat) (v1 : Int32) (v2 : Int32) (v3 : Int32), xR G yyW_soundsAsNoted (emi (m, z)) 2 [(0, .ref (xa G (77 + t))), (1, .int v1), (2, .int v2), (3, .int v3)] [] (m, z) (fW_soundsAsNoted_l2 t m n v1 v2 v3) := by
  intro n
  induction n with
  | zero =>
    intro v1 v2 v3
    rw [fW_soundsAsNoted_l2]
    exact xR_none
  | succ n ih =>
    intro v1 v2 v3
    rw [fW_soundsAsNoted_l2]
    refine xR_iln 2 3 dW_soundsAsNoted_2 rfl rfl ?_
    refine xR_aln 3 0 dW_soundsAsNoted_3 rfl rfl ?_
    refine xR_getf 4 xcf5 5 (77 + t) (by decide) (xk_W ht) (xC_twn ht) (v := .ref (xa G (36 + (7 * t + 5)))) rfl fl_RX6_36 dW_soundsAsNoted_4 ?_
    refine xR_callVi 7 cv_T_many ml_RX6_64 ⟨Nat.le_of_ble_eq_true rfl, Nat.le_of_ble_eq_true rfl⟩ xcf3 rfl (36 + (7 * t + 5)) (xk_T (xtw_lt ht (by decide))) (xC_tab (xtw_lt ht (by decide))) [] rfl rfl (Nat.le_of_ble_eq_true rfl) dW_soundsAsNoted_7 (kT_many G (7 * t + 5) (xtw_lt ht (by decide)) z m) (fun r7 => ?_)
    refine xR_icge 10 81 dW_soundsAsNoted_10 (by decide) ?_ ?_
    · refine xR_ic 81 (1 : Int32) dW_soundsAsNoted_81 (by decide) ?_
      exact xR_zret 82 rfl rfl dW_soundsAsNoted_82
    · refine xR_iln 13 1 dW_soundsAsNoted_13 rfl rfl ?_
      refine xR_aln 14 0 dW_soundsAsNoted_14 rfl rfl ?_
      refine xR_getf 15 xcf5 5 (77 + t) (by decide) (xk_W ht) (xC_twn ht) (v := .ref (xa G (36 + (7 * t + 5)))) rfl fl_RX6_36 dW_soundsAsNoted_15 ?_
      refine xR_iln 18 3 dW_soundsAsNoted_18 rfl rfl ?_
      refine xR_ic 19 (3 : Int32) dW_soundsAsNoted_19 (by decide) ?_
      refine xR_callVi 20 cv_T_get ml_RX6_103 ⟨Nat.le_of_ble_eq_true rfl, Nat.le_of_ble_eq_true rfl⟩ xcf3 rfl (36 + (7 * t + 5)) (xk_T (xtw_lt ht (by decide))) (xC_tab (xtw_lt ht (by decide))) [.int v3, .int (3 : Int32)] rfl rfl (Nat.le_of_ble_eq_true rfl) dW_soundsAsNoted_20 (kT_get G (7 * t + 5) (xtw_lt ht (by decide)) z m v3 (3 : Int32)) (fun r20 => ?_)
      refine xR_aln 23 0 dW_soundsAsNoted_23 rfl rfl ?_
      refine xR_getf 24 xcf5 5 (77 + t) (by decide) (xk_W ht) (xC_twn ht) (v := .ref (xa G (36 + (7 * t + 5)))) rfl fl_RX6_36 dW_soundsAsNoted_24 ?_
      refine xR_iln 27 3 dW_soundsAsNoted_27 rfl rfl ?_
      refine xR_ic 28 (1 : Int32) dW_soundsAsNoted_28 (by decide) ?_
      refine xR_callVi 29 cv_T_get ml_RX6_103 ⟨Nat.le_of_ble_eq_true rfl, Nat.le_of_ble_eq_true rfl⟩ xcf3 rfl (36 + (7 * t + 5)) (xk_T (xtw_lt ht (by decide))) (xC_tab (xtw_lt ht (by decide))) [.int v3, .int (1 : Int32)] rfl rfl (Nat.le_of_ble_eq_true rfl) dW_soundsAsNoted_29 (kT_get G (7 * t + 5) (xtw_lt ht (by decide)) z m v3 (1 : Int32)) (fun r29 => ?_)
      refine xR_aln 32 0 dW_soundsAsNoted_32 rfl rfl ?_
      refine xR_getf 33 xcf5 5 (77 + t) (by decide) (xk_W ht) (xC_twn ht) (v := .ref (xa G (36 + (7 * t + 5)))) rfl fl_RX6_36 dW_soundsAsNoted_33 ?_
      refine xR_iln 36 3 dW_soundsAsNoted_36 rfl rfl ?_
      refine xR_ic 37 (2 : Int32) dW_soundsAsNoted_37 (by decide) ?_
      refine xR_callVi 38 cv_T_get ml_RX6_103 ⟨Nat.le_of_ble_eq_true rfl, Nat.le_of_ble_eq_true rfl⟩ xcf3 rfl (36 + (7 * t + 5)) (xk_T (xtw_lt ht (by decide))) (xC_tab (xtw_lt ht (by decide))) [.int v3, .int (2 : Int32)] rfl rfl (Nat.le_of_ble_eq_true rfl) dW_soundsAsNoted_38 (kT_get G (7 * t + 5) (xtw_lt ht (by decide)) z m v3 (2 : Int32)) (fun r38 => ?_)
      refine xR_callSi 41 cs_D_soundBy ml_RX6_133 ⟨Nat.le_of_ble_eq_true rfl, Nat.le_of_ble_eq_true rfl⟩ [.int v1, .int r20, .int r29, .int r38] rfl rfl (Nat.le_of_ble_eq_true rfl) dW_soundsAsNoted_41 (kD_soundBy G (m, z) v1 r20 r29 r38) (fun r41 => ?_)
      refine xR_is 44 ([(4, .int r41), (0, .ref (xa G (77 + t))), (1, .int v1), (2, .int v2), (3, .int v3)]) dW_soundsAsNoted_44 (by decide) rfl ?_
      refine xR_aln 46 1 dW_soundsAsNoted_46 rfl rfl ?_
      refine xR_getf 47 xcf5 5 (77 + t) (by decide) (xk_W ht) (xC_twn ht) (v := .ref (xa G (36 + (7 * t + 5)))) rfl fl_RX6_36 dW_soundsAsNoted_47 ?_
      refine xR_iln 50 4 dW_soundsAsNoted_50 rfl rfl ?_
      refine xR_ic 51 (0 : Int32) dW_soundsAsNoted_51 (by decide) ?_
      refine xR_callVi 52 cv_T_get ml_RX6_103 ⟨Nat.le_of_ble_eq_true rfl, Nat.le_of_ble_eq_true rfl⟩ xcf3 rfl (36 + (7 * t + 5)) (xk_T (xtw_lt ht (by decide))) (xC_tab (xtw_lt ht (by decide))) [.int v3, .int (0 : Int32)] rfl rfl (Nat.le_of_ble_eq_true rfl) dW_soundsAsNoted_52 (kT_get G (7 * t + 5) (xtw_lt ht (by decide)) z m v3 (0 : Int32)) (fun r52 => ?_)
      refine xR_iln 55 3 dW_soundsAsNoted_55 rfl rfl ?_
      refine xR_icne 56 75 dW_soundsAsNoted_56 (by decide) ?_ ?_
      · exact xR_sub [1, 2, 3, 4] rfl (kW_soundsAsNoted_b75 G t ht z m (fW_soundsAsNoted_l2 t m n) ih v1 v2 v3)
      · refine xR_il 59 0 dW_soundsAsNoted_59 rfl ?_
        refine xR_aln 61 1 dW_soundsAsNoted_61 rfl rfl ?_
        refine xR_getf 62 xcf5 5 (77 + t) (by decide) (xk_W ht) (xC_twn ht) (v := .ref (xa G (36 + (7 * t + 5)))) rfl fl_RX6_36 dW_soundsAsNoted_62 ?_
        refine xR_iln 65 4 dW_soundsAsNoted_65 rfl rfl ?_
        refine xR_ic 66 (4 : Int32) dW_soundsAsNoted_66 (by decide) ?_
        refine xR_callVi 67 cv_T_get ml_RX6_103 ⟨Nat.le_of_ble_eq_true rfl, Nat.le_of_ble_eq_true rfl⟩ xcf3 rfl (36 + (7 * t + 5)) (xk_T (xtw_lt ht (by decide))) (xC_tab (xtw_lt ht (by decide))) [.int v3, .int (4 : Int32)] rfl rfl (Nat.le_of_ble_eq_true rfl) dW_soundsAsNoted_67 (kT_get G (7 * t + 5) (xtw_lt ht (by decide)) z m v3 (4 : Int32)) (fun r67 => ?_)
        refine xR_iceq 70 75 dW_soundsAsNoted_70 (by decide) ?_ ?_
        · exact xR_sub [1, 2, 3, 4] rfl (kW_soundsAsNoted_b75 G t ht z m (fW_soundsAsNoted_l2 t m n) ih v1 v2 v3)
        · refine xR_ic 73 (0 : Int32) dW_soundsAsNoted_73 (by decide) ?_
          exact xR_zret 74 rfl rfl dW_soundsAsNoted_74
set_option maxRecDepth 100000 in
set_option maxHeartbeats 4000000 in
theorem kW_soundsAsNoted (G : xG) (t : Nat) (ht : t < 4) (z : xM) (m : xM) (v1 : Int32) (v2 : Int32) : ∀ a, fW_soundsAsNoted t m v1 v2 = some a → xCt G yyW_soundsAsNoted [.ref (xa G (77 + t)), .int v1, .int v2] (m, z) (some (.int a)) (m, z) := by
  refine xR_ct (em := (emi (m, z))) rfl (Nat.le_of_ble_eq_true rfl) ?_
  show xR G yyW_soundsAsNoted _ 0 [(0, .ref (xa G (77 + t))), (1, .int v1), (2, .int v2)] [] _ _
  unfold fW_soundsAsNoted
  refine xR_ic 0 (0 : Int32) dW_soundsAsNoted_0 (by decide) ?_
  refine xR_isn 1 ([(3, .int (0 : Int32)), (0, .ref (xa G (77 + t))), (1, .int v1), (2, .int v2)]) dW_soundsAsNoted_1 rfl (by decide) rfl ?_
  exact xR_sub [1, 2, 3, 0] rfl (kW_soundsAsNoted_l2 G t ht z m xfu v1 v2 (0 : Int32))
theorem dW_notedKinds_0 : decode (xb yyW_notedKinds) 0 = .ok (.iconst 0, 1) := by decide +kernel
theorem dW_notedKinds_1 : decode (xb yyW_notedKinds) 1 = .ok (.istore_n 2, 1) := by decide +kernel
theorem dW_notedKinds_2 : decode (xb yyW_notedKinds) 2 = .ok (.iconst 0, 1) := by decide +kernel
theorem dW_notedKinds_3 : decode (xb yyW_notedKinds) 3 = .ok (.istore_n 3, 1) := by decide +kernel
theorem dW_notedKinds_4 : decode (xb yyW_notedKinds) 4 = .ok (.iload_n 3, 1) := by decide +kernel
theorem dW_notedKinds_5 : decode (xb yyW_notedKinds) 5 = .ok (.bipush 6, 2) := by decide +kernel
theorem dW_notedKinds_7 : decode (xb yyW_notedKinds) 7 = .ok (.if_icmp .ge 24, 3) := by decide +kernel
theorem dW_notedKinds_10 : decode (xb yyW_notedKinds) 10 = .ok (.aload_n 0, 1) := by decide +kernel
theorem dW_notedKinds_11 : decode (xb yyW_notedKinds) 11 = .ok (.iload_n 3, 1) := by decide +kernel
theorem dW_notedKinds_12 : decode (xb yyW_notedKinds) 12 = .ok (.iload_n 1, 1) := by decide +kernel
theorem dW_notedKinds_13 : decode (xb yyW_notedKinds) 13 = .ok (.invokevirtual 130, 3) := by decide +kernel
theorem dW_notedKinds_16 : decode (xb yyW_notedKinds) 16 = .ok (.ifCond .eq 9, 3) := by decide +kernel
theorem dW_notedKinds_19 : decode (xb yyW_notedKinds) 19 = .ok (.iload_n 2, 1) := by decide +kernel
theorem dW_notedKinds_20 : decode (xb yyW_notedKinds) 20 = .ok (.iconst 1, 1) := by decide +kernel
theorem dW_notedKinds_21 : decode (xb yyW_notedKinds) 21 = .ok (.iload_n 3, 1) := by decide +kernel
theorem dW_notedKinds_22 : decode (xb yyW_notedKinds) 22 = .ok (.ishl, 1) := by decide +kernel
theorem dW_notedKinds_23 : decode (xb yyW_notedKinds) 23 = .ok (.ior, 1) := by decide +kernel
theorem dW_notedKinds_24 : decode (xb yyW_notedKinds) 24 = .ok (.istore_n 2, 1) := by decide +kernel
theorem dW_notedKinds_25 : decode (xb yyW_notedKinds) 25 = .ok (.iinc 3 1, 3) := by decide +kernel
theorem dW_notedKinds_28 : decode (xb yyW_notedKinds) 28 = .ok (.goto (-24), 3) := by decide +kernel
theorem dW_notedKinds_31 : decode (xb yyW_notedKinds) 31 = .ok (.iload_n 2, 1) := by decide +kernel
theorem dW_notedKinds_32 : decode (xb yyW_notedKinds) 32 = .ok (.ireturn, 1) := by decide +kernel
def fW_notedKinds_b25 (t : Nat) (m : xM) (k4 : Int32 → Int32 → Int32 → Option (Int32)) (v1 : Int32) (v2 : Int32) (v3 : Int32) : Option (Int32) := k4 v1 v2 (v3 + 1)
def fW_notedKinds_l4 (t : Nat) (m : xM) : Nat → Int32 → Int32 → Int32 → Option (Int32)
  | 0, _, _, _ => none
  | n + 1, v1, v2, v3 => (if (6 : Int32) ≤ v3 then some v2 else (fW_soundsAsNoted t m v3 v1).bind fun r13 => (if r13 = 0 then fW_notedKinds_b25 t m (fW_notedKinds_l4 t m n) v1 v2 v3 else fW_notedKinds_b25 t m (fW_notedKinds_l4 t m n) v1 (v2 ||| ((1 : Int32) <<< (v3 &&& 31))) v3))
def fW_notedKinds (t : Nat) (m : xM) (v1 : Int32) : Option (Int32) := fW_notedKinds_l4 t m xfu v1 (0 : Int32) (0 : Int32)
set_option maxRecDepth 100000 in
set_option maxHeartbeats 4000000 in
theorem kW_notedKinds_b25 (G : xG) (t : Nat) (ht : t < 4) (z : xM) (m : xM) (k4 : Int32 → Int32 → Int32 → Option (Int32)) (hk4 : ∀ (v1 : Int32) (v2 : Int32) (v3 : Int32), xR G yyW_notedKinds (emi (m, z)) 4 [(0, .ref (xa G (77 + t))), (1, .int v1), (2, .int v2), (3, .int v3)] [] (m, z) (k4 v1 v2 v3)) (v1 : Int32) (v2 : Int32) (v3 : Int32) : xR G yyW_notedKinds (emi (m, z)) 25 [(0, .ref (xa G (77 + t))), (1, .int v1), (2, .int v2), (3, .int v3)] [] (m, z) (fW_notedKinds_b25 t m k4 v1 v2 v3) := by
  unfold fW_notedKinds_b25
  refine xR_iinc 25 3 (v3 + 1) ([(3, .int (v3 + 1)), (0, .ref (xa G (77 + t))), (1, .int v1), (2, .int v2)]) dW_notedKinds_25 rfl rfl (by decide) rfl ?_
  refine xR_goto 28 4 dW_notedKinds_28 (by decide) ?_
  exact xR_sub [1, 2, 3, 0] rfl (hk4 v1 v2 (v3 + 1))
set_option maxRecDepth 100000 in
set_option maxHeartbeats 4000000 in
theorem kW_notedKinds_l4 (G : xG) (t : Nat) (ht : t < 4) (z : xM) (m : xM)   : ∀ (n : Nat) (v1 : Int32) (v2 : Int32) (v3 : Int32), xR G yyW_notedKinds (emi (m, z)) 4 [(0, .ref (xa G (77 + t))), (1, .int v1), (2, .int v2), (3, .int v3)] [] (m, z) (fW_notedKinds_l4 t m n v1 v2 v3) := by
  intro n
  induction n with
  | zero =>
    intro v1 v2 v3
    rw [fW_notedKinds_l4]
    exact xR_none
  | succ n ih =>
    intro v1 v2 v3
    rw [fW_notedKinds_l4]
    refine xR_iln 4 3 dW_notedKinds_4 rfl rfl ?_
    refine xR_bp 5 (6 : Int32) dW_notedKinds_5 (by decide) ?_
    refine xR_icge 7 31 dW_notedKinds_7 (by decide) ?_ ?_
    · refine xR_iln 31 2 dW_notedKinds_31 rfl rfl ?_
      exact xR_iret 32 rfl rfl dW_notedKinds_32
    · refine xR_aln 10 0 dW_notedKinds_10 rfl rfl ?_
      refine xR_iln 11 3 dW_notedKinds_11 rfl rfl ?_
      refine xR_iln 12 1 dW_notedKinds_12 rfl rfl ?_
      refine xR_callVi 13 cv_W_soundsAsNoted ml_RX6_130 ⟨Nat.le_of_ble_eq_true rfl, Nat.le_of_ble_eq_true rfl⟩ xcf5 rfl (77 + t) (xk_W ht) (xC_twn ht) [.int v3, .int v1] rfl rfl (Nat.le_of_ble_eq_true rfl) dW_notedKinds_13 (kW_soundsAsNoted G t ht z m v3 v1) (fun r13 => ?_)
      refine xR_ifeq 16 25 dW_notedKinds_16 (by decide) ?_ ?_
      · exact kW_notedKinds_b25 G t ht z m (fW_notedKinds_l4 t m n) ih v1 v2 v3
      · refine xR_iln 19 2 dW_notedKinds_19 rfl rfl ?_
        refine xR_ic 20 (1 : Int32) dW_notedKinds_20 (by decide) ?_
        refine xR_iln 21 3 dW_notedKinds_21 rfl rfl ?_
        refine xR_ishl 22 dW_notedKinds_22 ?_
        refine xR_ior 23 dW_notedKinds_23 ?_
        refine xR_isn 24 ([(2, .int (v2 ||| ((1 : Int32) <<< (v3 &&& 31)))), (0, .ref (xa G (77 + t))), (1, .int v1), (3, .int v3)]) dW_notedKinds_24 rfl (by decide) rfl ?_
        exact xR_sub [1, 2, 0, 3] rfl (kW_notedKinds_b25 G t ht z m (fW_notedKinds_l4 t m n) ih v1 (v2 ||| ((1 : Int32) <<< (v3 &&& 31))) v3)
set_option maxRecDepth 100000 in
set_option maxHeartbeats 4000000 in
theorem kW_notedKinds (G : xG) (t : Nat) (ht : t < 4) (z : xM) (m : xM) (v1 : Int32) : ∀ a, fW_notedKinds t m v1 = some a → xCt G yyW_notedKinds [.ref (xa G (77 + t)), .int v1] (m, z) (some (.int a)) (m, z) := by
  refine xR_ct (em := (emi (m, z))) rfl (Nat.le_of_ble_eq_true rfl) ?_
  show xR G yyW_notedKinds _ 0 [(0, .ref (xa G (77 + t))), (1, .int v1)] [] _ _
  unfold fW_notedKinds
  refine xR_ic 0 (0 : Int32) dW_notedKinds_0 (by decide) ?_
  refine xR_isn 1 ([(2, .int (0 : Int32)), (0, .ref (xa G (77 + t))), (1, .int v1)]) dW_notedKinds_1 rfl (by decide) rfl ?_
  refine xR_ic 2 (0 : Int32) dW_notedKinds_2 (by decide) ?_
  refine xR_isn 3 ([(3, .int (0 : Int32)), (2, .int (0 : Int32)), (0, .ref (xa G (77 + t))), (1, .int v1)]) dW_notedKinds_3 rfl (by decide) rfl ?_
  exact xR_sub [2, 3, 1, 0] rfl (kW_notedKinds_l4 G t ht z m xfu v1 (0 : Int32) (0 : Int32))
theorem dW_playsAsMarked_0 : decode (xb yyW_playsAsMarked) 0 = .ok (.iconst 0, 1) := by decide +kernel
theorem dW_playsAsMarked_1 : decode (xb yyW_playsAsMarked) 1 = .ok (.istore_n 3, 1) := by decide +kernel
theorem dW_playsAsMarked_2 : decode (xb yyW_playsAsMarked) 2 = .ok (.iload_n 3, 1) := by decide +kernel
theorem dW_playsAsMarked_3 : decode (xb yyW_playsAsMarked) 3 = .ok (.aload_n 0, 1) := by decide +kernel
theorem dW_playsAsMarked_4 : decode (xb yyW_playsAsMarked) 4 = .ok (.getfield 39, 3) := by decide +kernel
theorem dW_playsAsMarked_7 : decode (xb yyW_playsAsMarked) 7 = .ok (.invokevirtual 64, 3) := by decide +kernel
theorem dW_playsAsMarked_10 : decode (xb yyW_playsAsMarked) 10 = .ok (.if_icmp .ge 84, 3) := by decide +kernel
theorem dW_playsAsMarked_13 : decode (xb yyW_playsAsMarked) 13 = .ok (.aload_n 0, 1) := by decide +kernel
theorem dW_playsAsMarked_14 : decode (xb yyW_playsAsMarked) 14 = .ok (.getfield 39, 3) := by decide +kernel
theorem dW_playsAsMarked_17 : decode (xb yyW_playsAsMarked) 17 = .ok (.iload_n 3, 1) := by decide +kernel
theorem dW_playsAsMarked_18 : decode (xb yyW_playsAsMarked) 18 = .ok (.iconst 4, 1) := by decide +kernel
theorem dW_playsAsMarked_19 : decode (xb yyW_playsAsMarked) 19 = .ok (.invokevirtual 103, 3) := by decide +kernel
theorem dW_playsAsMarked_22 : decode (xb yyW_playsAsMarked) 22 = .ok (.istore 4, 2) := by decide +kernel
theorem dW_playsAsMarked_24 : decode (xb yyW_playsAsMarked) 24 = .ok (.iload_n 1, 1) := by decide +kernel
theorem dW_playsAsMarked_25 : decode (xb yyW_playsAsMarked) 25 = .ok (.iload 4, 2) := by decide +kernel
theorem dW_playsAsMarked_27 : decode (xb yyW_playsAsMarked) 27 = .ok (.aload_n 0, 1) := by decide +kernel
theorem dW_playsAsMarked_28 : decode (xb yyW_playsAsMarked) 28 = .ok (.getfield 39, 3) := by decide +kernel
theorem dW_playsAsMarked_31 : decode (xb yyW_playsAsMarked) 31 = .ok (.iload_n 3, 1) := by decide +kernel
theorem dW_playsAsMarked_32 : decode (xb yyW_playsAsMarked) 32 = .ok (.iconst 1, 1) := by decide +kernel
theorem dW_playsAsMarked_33 : decode (xb yyW_playsAsMarked) 33 = .ok (.invokevirtual 103, 3) := by decide +kernel
theorem dW_playsAsMarked_36 : decode (xb yyW_playsAsMarked) 36 = .ok (.aload_n 0, 1) := by decide +kernel
theorem dW_playsAsMarked_37 : decode (xb yyW_playsAsMarked) 37 = .ok (.getfield 39, 3) := by decide +kernel
theorem dW_playsAsMarked_40 : decode (xb yyW_playsAsMarked) 40 = .ok (.iload_n 3, 1) := by decide +kernel
theorem dW_playsAsMarked_41 : decode (xb yyW_playsAsMarked) 41 = .ok (.iconst 2, 1) := by decide +kernel
theorem dW_playsAsMarked_42 : decode (xb yyW_playsAsMarked) 42 = .ok (.invokevirtual 103, 3) := by decide +kernel
theorem dW_playsAsMarked_45 : decode (xb yyW_playsAsMarked) 45 = .ok (.aload_n 0, 1) := by decide +kernel
theorem dW_playsAsMarked_46 : decode (xb yyW_playsAsMarked) 46 = .ok (.getfield 39, 3) := by decide +kernel
theorem dW_playsAsMarked_49 : decode (xb yyW_playsAsMarked) 49 = .ok (.iload_n 3, 1) := by decide +kernel
theorem dW_playsAsMarked_50 : decode (xb yyW_playsAsMarked) 50 = .ok (.iconst 3, 1) := by decide +kernel
theorem dW_playsAsMarked_51 : decode (xb yyW_playsAsMarked) 51 = .ok (.invokevirtual 103, 3) := by decide +kernel
theorem dW_playsAsMarked_54 : decode (xb yyW_playsAsMarked) 54 = .ok (.invokestatic 112, 3) := by decide +kernel
theorem dW_playsAsMarked_57 : decode (xb yyW_playsAsMarked) 57 = .ok (.istore 5, 2) := by decide +kernel
theorem dW_playsAsMarked_59 : decode (xb yyW_playsAsMarked) 59 = .ok (.aload_n 0, 1) := by decide +kernel
theorem dW_playsAsMarked_60 : decode (xb yyW_playsAsMarked) 60 = .ok (.getfield 39, 3) := by decide +kernel
theorem dW_playsAsMarked_63 : decode (xb yyW_playsAsMarked) 63 = .ok (.iload_n 3, 1) := by decide +kernel
theorem dW_playsAsMarked_64 : decode (xb yyW_playsAsMarked) 64 = .ok (.iconst 0, 1) := by decide +kernel
theorem dW_playsAsMarked_65 : decode (xb yyW_playsAsMarked) 65 = .ok (.invokevirtual 103, 3) := by decide +kernel
theorem dW_playsAsMarked_68 : decode (xb yyW_playsAsMarked) 68 = .ok (.iload_n 2, 1) := by decide +kernel
theorem dW_playsAsMarked_69 : decode (xb yyW_playsAsMarked) 69 = .ok (.if_icmp .ne 19, 3) := by decide +kernel
theorem dW_playsAsMarked_72 : decode (xb yyW_playsAsMarked) 72 = .ok (.iload 5, 2) := by decide +kernel
theorem dW_playsAsMarked_74 : decode (xb yyW_playsAsMarked) 74 = .ok (.aload_n 0, 1) := by decide +kernel
theorem dW_playsAsMarked_75 : decode (xb yyW_playsAsMarked) 75 = .ok (.getfield 39, 3) := by decide +kernel
theorem dW_playsAsMarked_78 : decode (xb yyW_playsAsMarked) 78 = .ok (.iload_n 3, 1) := by decide +kernel
theorem dW_playsAsMarked_79 : decode (xb yyW_playsAsMarked) 79 = .ok (.iconst 5, 1) := by decide +kernel
theorem dW_playsAsMarked_80 : decode (xb yyW_playsAsMarked) 80 = .ok (.invokevirtual 103, 3) := by decide +kernel
theorem dW_playsAsMarked_83 : decode (xb yyW_playsAsMarked) 83 = .ok (.if_icmp .eq 5, 3) := by decide +kernel
theorem dW_playsAsMarked_86 : decode (xb yyW_playsAsMarked) 86 = .ok (.iconst 0, 1) := by decide +kernel
theorem dW_playsAsMarked_87 : decode (xb yyW_playsAsMarked) 87 = .ok (.ireturn, 1) := by decide +kernel
theorem dW_playsAsMarked_88 : decode (xb yyW_playsAsMarked) 88 = .ok (.iinc 3 1, 3) := by decide +kernel
theorem dW_playsAsMarked_91 : decode (xb yyW_playsAsMarked) 91 = .ok (.goto (-89), 3) := by decide +kernel
theorem dW_playsAsMarked_94 : decode (xb yyW_playsAsMarked) 94 = .ok (.iconst 1, 1) := by decide +kernel
theorem dW_playsAsMarked_95 : decode (xb yyW_playsAsMarked) 95 = .ok (.ireturn, 1) := by decide +kernel
def fW_playsAsMarked_b88 (t : Nat) (m : xM) (k2 : Int32 → Int32 → Int32 → Option (Int32)) (v1 : Int32) (v2 : Int32) (v3 : Int32) : Option (Int32) := k2 v1 v2 (v3 + 1)
def fW_playsAsMarked_l2 (t : Nat) (m : xM) : Nat → Int32 → Int32 → Int32 → Option (Int32)
  | 0, _, _, _ => none
  | n + 1, v1, v2, v3 => (fT_many (7 * t + 6) m).bind fun r7 => (if r7 ≤ v3 then some (xnb (1 : Int32)) else (fT_get (7 * t + 6) m v3 (4 : Int32)).bind fun r19 => (fT_get (7 * t + 6) m v3 (1 : Int32)).bind fun r33 => (fT_get (7 * t + 6) m v3 (2 : Int32)).bind fun r42 => (fT_get (7 * t + 6) m v3 (3 : Int32)).bind fun r51 => (fS_playBy v1 r19 r33 r42 r51).bind fun r54 => (fT_get (7 * t + 6) m v3 (0 : Int32)).bind fun r65 => (if r65 = v2 then (fT_get (7 * t + 6) m v3 (5 : Int32)).bind fun r80 => (if r54 = r80 then fW_playsAsMarked_b88 t m (fW_playsAsMarked_l2 t m n) v1 v2 v3 else some (xnb (0 : Int32))) else fW_playsAsMarked_b88 t m (fW_playsAsMarked_l2 t m n) v1 v2 v3))
def fW_playsAsMarked (t : Nat) (m : xM) (v1 : Int32) (v2 : Int32) : Option (Int32) := fW_playsAsMarked_l2 t m xfu v1 v2 (0 : Int32)
set_option maxRecDepth 100000 in
set_option maxHeartbeats 4000000 in
theorem kW_playsAsMarked_b88 (G : xG) (t : Nat) (ht : t < 4) (z : xM) (m : xM) (k2 : Int32 → Int32 → Int32 → Option (Int32)) (hk2 : ∀ (v1 : Int32) (v2 : Int32) (v3 : Int32), xR G yyW_playsAsMarked (emi (m, z)) 2 [(0, .ref (xa G (77 + t))), (1, .int v1), (2, .int v2), (3, .int v3)] [] (m, z) (k2 v1 v2 v3)) (v1 : Int32) (v2 : Int32) (v3 : Int32) : xR G yyW_playsAsMarked (emi (m, z)) 88 [(0, .ref (xa G (77 + t))), (1, .int v1), (2, .int v2), (3, .int v3)] [] (m, z) (fW_playsAsMarked_b88 t m k2 v1 v2 v3) := by
  unfold fW_playsAsMarked_b88
  refine xR_iinc 88 3 (v3 + 1) ([(3, .int (v3 + 1)), (0, .ref (xa G (77 + t))), (1, .int v1), (2, .int v2)]) dW_playsAsMarked_88 rfl rfl (by decide) rfl ?_
  refine xR_goto 91 2 dW_playsAsMarked_91 (by decide) ?_
  exact xR_sub [1, 2, 3, 0] rfl (hk2 v1 v2 (v3 + 1))
set_option maxRecDepth 100000 in
set_option maxHeartbeats 4000000 in
theorem kW_playsAsMarked_l2 (G : xG) (t : Nat) (ht : t < 4) (z : xM) (m : xM)   : ∀ (n : Nat) (v1 : Int32) (v2 : Int32) (v3 : Int32), xR G yyW_playsAsMarked (emi (m, z)) 2 [(0, .ref (xa G (77 + t))), (1, .int v1), (2, .int v2), (3, .int v3)] [] (m, z) (fW_playsAsMarked_l2 t m n v1 v2 v3) := by
  intro n
  induction n with
  | zero =>
    intro v1 v2 v3
    rw [fW_playsAsMarked_l2]
    exact xR_none
  | succ n ih =>
    intro v1 v2 v3
    rw [fW_playsAsMarked_l2]
    refine xR_iln 2 3 dW_playsAsMarked_2 rfl rfl ?_
    refine xR_aln 3 0 dW_playsAsMarked_3 rfl rfl ?_
    refine xR_getf 4 xcf5 6 (77 + t) (by decide) (xk_W ht) (xC_twn ht) (v := .ref (xa G (36 + (7 * t + 6)))) rfl fl_RX6_39 dW_playsAsMarked_4 ?_
    refine xR_callVi 7 cv_T_many ml_RX6_64 ⟨Nat.le_of_ble_eq_true rfl, Nat.le_of_ble_eq_true rfl⟩ xcf3 rfl (36 + (7 * t + 6)) (xk_T (xtw_lt ht (by decide))) (xC_tab (xtw_lt ht (by decide))) [] rfl rfl (Nat.le_of_ble_eq_true rfl) dW_playsAsMarked_7 (kT_many G (7 * t + 6) (xtw_lt ht (by decide)) z m) (fun r7 => ?_)
    refine xR_icge 10 94 dW_playsAsMarked_10 (by decide) ?_ ?_
    · refine xR_ic 94 (1 : Int32) dW_playsAsMarked_94 (by decide) ?_
      exact xR_zret 95 rfl rfl dW_playsAsMarked_95
    · refine xR_aln 13 0 dW_playsAsMarked_13 rfl rfl ?_
      refine xR_getf 14 xcf5 6 (77 + t) (by decide) (xk_W ht) (xC_twn ht) (v := .ref (xa G (36 + (7 * t + 6)))) rfl fl_RX6_39 dW_playsAsMarked_14 ?_
      refine xR_iln 17 3 dW_playsAsMarked_17 rfl rfl ?_
      refine xR_ic 18 (4 : Int32) dW_playsAsMarked_18 (by decide) ?_
      refine xR_callVi 19 cv_T_get ml_RX6_103 ⟨Nat.le_of_ble_eq_true rfl, Nat.le_of_ble_eq_true rfl⟩ xcf3 rfl (36 + (7 * t + 6)) (xk_T (xtw_lt ht (by decide))) (xC_tab (xtw_lt ht (by decide))) [.int v3, .int (4 : Int32)] rfl rfl (Nat.le_of_ble_eq_true rfl) dW_playsAsMarked_19 (kT_get G (7 * t + 6) (xtw_lt ht (by decide)) z m v3 (4 : Int32)) (fun r19 => ?_)
      refine xR_is 22 ([(4, .int r19), (0, .ref (xa G (77 + t))), (1, .int v1), (2, .int v2), (3, .int v3)]) dW_playsAsMarked_22 (by decide) rfl ?_
      refine xR_iln 24 2 dW_playsAsMarked_24 rfl rfl ?_
      refine xR_il 25 0 dW_playsAsMarked_25 rfl ?_
      refine xR_aln 27 1 dW_playsAsMarked_27 rfl rfl ?_
      refine xR_getf 28 xcf5 6 (77 + t) (by decide) (xk_W ht) (xC_twn ht) (v := .ref (xa G (36 + (7 * t + 6)))) rfl fl_RX6_39 dW_playsAsMarked_28 ?_
      refine xR_iln 31 4 dW_playsAsMarked_31 rfl rfl ?_
      refine xR_ic 32 (1 : Int32) dW_playsAsMarked_32 (by decide) ?_
      refine xR_callVi 33 cv_T_get ml_RX6_103 ⟨Nat.le_of_ble_eq_true rfl, Nat.le_of_ble_eq_true rfl⟩ xcf3 rfl (36 + (7 * t + 6)) (xk_T (xtw_lt ht (by decide))) (xC_tab (xtw_lt ht (by decide))) [.int v3, .int (1 : Int32)] rfl rfl (Nat.le_of_ble_eq_true rfl) dW_playsAsMarked_33 (kT_get G (7 * t + 6) (xtw_lt ht (by decide)) z m v3 (1 : Int32)) (fun r33 => ?_)
      refine xR_aln 36 1 dW_playsAsMarked_36 rfl rfl ?_
      refine xR_getf 37 xcf5 6 (77 + t) (by decide) (xk_W ht) (xC_twn ht) (v := .ref (xa G (36 + (7 * t + 6)))) rfl fl_RX6_39 dW_playsAsMarked_37 ?_
      refine xR_iln 40 4 dW_playsAsMarked_40 rfl rfl ?_
      refine xR_ic 41 (2 : Int32) dW_playsAsMarked_41 (by decide) ?_
      refine xR_callVi 42 cv_T_get ml_RX6_103 ⟨Nat.le_of_ble_eq_true rfl, Nat.le_of_ble_eq_true rfl⟩ xcf3 rfl (36 + (7 * t + 6)) (xk_T (xtw_lt ht (by decide))) (xC_tab (xtw_lt ht (by decide))) [.int v3, .int (2 : Int32)] rfl rfl (Nat.le_of_ble_eq_true rfl) dW_playsAsMarked_42 (kT_get G (7 * t + 6) (xtw_lt ht (by decide)) z m v3 (2 : Int32)) (fun r42 => ?_)
      refine xR_aln 45 1 dW_playsAsMarked_45 rfl rfl ?_
      refine xR_getf 46 xcf5 6 (77 + t) (by decide) (xk_W ht) (xC_twn ht) (v := .ref (xa G (36 + (7 * t + 6)))) rfl fl_RX6_39 dW_playsAsMarked_46 ?_
      refine xR_iln 49 4 dW_playsAsMarked_49 rfl rfl ?_
      refine xR_ic 50 (3 : Int32) dW_playsAsMarked_50 (by decide) ?_
      refine xR_callVi 51 cv_T_get ml_RX6_103 ⟨Nat.le_of_ble_eq_true rfl, Nat.le_of_ble_eq_true rfl⟩ xcf3 rfl (36 + (7 * t + 6)) (xk_T (xtw_lt ht (by decide))) (xC_tab (xtw_lt ht (by decide))) [.int v3, .int (3 : Int32)] rfl rfl (Nat.le_of_ble_eq_true rfl) dW_playsAsMarked_51 (kT_get G (7 * t + 6) (xtw_lt ht (by decide)) z m v3 (3 : Int32)) (fun r51 => ?_)
      refine xR_callSi 54 cs_S_playBy ml_RX6_112 ⟨Nat.le_of_ble_eq_true rfl, Nat.le_of_ble_eq_true rfl⟩ [.int v1, .int r19, .int r33, .int r42, .int r51] rfl rfl (Nat.le_of_ble_eq_true rfl) dW_playsAsMarked_54 (kS_playBy G (m, z) v1 r19 r33 r42 r51) (fun r54 => ?_)
      refine xR_is 57 ([(5, .int r54), (4, .int r19), (0, .ref (xa G (77 + t))), (1, .int v1), (2, .int v2), (3, .int v3)]) dW_playsAsMarked_57 (by decide) rfl ?_
      refine xR_aln 59 2 dW_playsAsMarked_59 rfl rfl ?_
      refine xR_getf 60 xcf5 6 (77 + t) (by decide) (xk_W ht) (xC_twn ht) (v := .ref (xa G (36 + (7 * t + 6)))) rfl fl_RX6_39 dW_playsAsMarked_60 ?_
      refine xR_iln 63 5 dW_playsAsMarked_63 rfl rfl ?_
      refine xR_ic 64 (0 : Int32) dW_playsAsMarked_64 (by decide) ?_
      refine xR_callVi 65 cv_T_get ml_RX6_103 ⟨Nat.le_of_ble_eq_true rfl, Nat.le_of_ble_eq_true rfl⟩ xcf3 rfl (36 + (7 * t + 6)) (xk_T (xtw_lt ht (by decide))) (xC_tab (xtw_lt ht (by decide))) [.int v3, .int (0 : Int32)] rfl rfl (Nat.le_of_ble_eq_true rfl) dW_playsAsMarked_65 (kT_get G (7 * t + 6) (xtw_lt ht (by decide)) z m v3 (0 : Int32)) (fun r65 => ?_)
      refine xR_iln 68 4 dW_playsAsMarked_68 rfl rfl ?_
      refine xR_icne 69 88 dW_playsAsMarked_69 (by decide) ?_ ?_
      · exact xR_sub [2, 3, 4, 5] rfl (kW_playsAsMarked_b88 G t ht z m (fW_playsAsMarked_l2 t m n) ih v1 v2 v3)
      · refine xR_il 72 0 dW_playsAsMarked_72 rfl ?_
        refine xR_aln 74 2 dW_playsAsMarked_74 rfl rfl ?_
        refine xR_getf 75 xcf5 6 (77 + t) (by decide) (xk_W ht) (xC_twn ht) (v := .ref (xa G (36 + (7 * t + 6)))) rfl fl_RX6_39 dW_playsAsMarked_75 ?_
        refine xR_iln 78 5 dW_playsAsMarked_78 rfl rfl ?_
        refine xR_ic 79 (5 : Int32) dW_playsAsMarked_79 (by decide) ?_
        refine xR_callVi 80 cv_T_get ml_RX6_103 ⟨Nat.le_of_ble_eq_true rfl, Nat.le_of_ble_eq_true rfl⟩ xcf3 rfl (36 + (7 * t + 6)) (xk_T (xtw_lt ht (by decide))) (xC_tab (xtw_lt ht (by decide))) [.int v3, .int (5 : Int32)] rfl rfl (Nat.le_of_ble_eq_true rfl) dW_playsAsMarked_80 (kT_get G (7 * t + 6) (xtw_lt ht (by decide)) z m v3 (5 : Int32)) (fun r80 => ?_)
        refine xR_iceq 83 88 dW_playsAsMarked_83 (by decide) ?_ ?_
        · exact xR_sub [2, 3, 4, 5] rfl (kW_playsAsMarked_b88 G t ht z m (fW_playsAsMarked_l2 t m n) ih v1 v2 v3)
        · refine xR_ic 86 (0 : Int32) dW_playsAsMarked_86 (by decide) ?_
          exact xR_zret 87 rfl rfl dW_playsAsMarked_87
set_option maxRecDepth 100000 in
set_option maxHeartbeats 4000000 in
theorem kW_playsAsMarked (G : xG) (t : Nat) (ht : t < 4) (z : xM) (m : xM) (v1 : Int32) (v2 : Int32) : ∀ a, fW_playsAsMarked t m v1 v2 = some a → xCt G yyW_playsAsMarked [.ref (xa G (77 + t)), .int v1, .int v2] (m, z) (some (.int a)) (m, z) := by
  refine xR_ct (em := (emi (m, z))) rfl (Nat.le_of_ble_eq_true rfl) ?_
  show xR G yyW_playsAsMarked _ 0 [(0, .ref (xa G (77 + t))), (1, .int v1), (2, .int v2)] [] _ _
  unfold fW_playsAsMarked
  refine xR_ic 0 (0 : Int32) dW_playsAsMarked_0 (by decide) ?_
  refine xR_isn 1 ([(3, .int (0 : Int32)), (0, .ref (xa G (77 + t))), (1, .int v1), (2, .int v2)]) dW_playsAsMarked_1 rfl (by decide) rfl ?_
  exact xR_sub [1, 2, 3, 0] rfl (kW_playsAsMarked_l2 G t ht z m xfu v1 v2 (0 : Int32))
theorem dW_markedKinds_0 : decode (xb yyW_markedKinds) 0 = .ok (.iconst 0, 1) := by decide +kernel
theorem dW_markedKinds_1 : decode (xb yyW_markedKinds) 1 = .ok (.istore_n 2, 1) := by decide +kernel
theorem dW_markedKinds_2 : decode (xb yyW_markedKinds) 2 = .ok (.iconst 0, 1) := by decide +kernel
theorem dW_markedKinds_3 : decode (xb yyW_markedKinds) 3 = .ok (.istore_n 3, 1) := by decide +kernel
theorem dW_markedKinds_4 : decode (xb yyW_markedKinds) 4 = .ok (.iload_n 3, 1) := by decide +kernel
theorem dW_markedKinds_5 : decode (xb yyW_markedKinds) 5 = .ok (.bipush 6, 2) := by decide +kernel
theorem dW_markedKinds_7 : decode (xb yyW_markedKinds) 7 = .ok (.if_icmp .ge 24, 3) := by decide +kernel
theorem dW_markedKinds_10 : decode (xb yyW_markedKinds) 10 = .ok (.aload_n 0, 1) := by decide +kernel
theorem dW_markedKinds_11 : decode (xb yyW_markedKinds) 11 = .ok (.iload_n 3, 1) := by decide +kernel
theorem dW_markedKinds_12 : decode (xb yyW_markedKinds) 12 = .ok (.iload_n 1, 1) := by decide +kernel
theorem dW_markedKinds_13 : decode (xb yyW_markedKinds) 13 = .ok (.invokevirtual 139, 3) := by decide +kernel
theorem dW_markedKinds_16 : decode (xb yyW_markedKinds) 16 = .ok (.ifCond .eq 9, 3) := by decide +kernel
theorem dW_markedKinds_19 : decode (xb yyW_markedKinds) 19 = .ok (.iload_n 2, 1) := by decide +kernel
theorem dW_markedKinds_20 : decode (xb yyW_markedKinds) 20 = .ok (.iconst 1, 1) := by decide +kernel
theorem dW_markedKinds_21 : decode (xb yyW_markedKinds) 21 = .ok (.iload_n 3, 1) := by decide +kernel
theorem dW_markedKinds_22 : decode (xb yyW_markedKinds) 22 = .ok (.ishl, 1) := by decide +kernel
theorem dW_markedKinds_23 : decode (xb yyW_markedKinds) 23 = .ok (.ior, 1) := by decide +kernel
theorem dW_markedKinds_24 : decode (xb yyW_markedKinds) 24 = .ok (.istore_n 2, 1) := by decide +kernel
theorem dW_markedKinds_25 : decode (xb yyW_markedKinds) 25 = .ok (.iinc 3 1, 3) := by decide +kernel
theorem dW_markedKinds_28 : decode (xb yyW_markedKinds) 28 = .ok (.goto (-24), 3) := by decide +kernel
theorem dW_markedKinds_31 : decode (xb yyW_markedKinds) 31 = .ok (.iload_n 2, 1) := by decide +kernel
theorem dW_markedKinds_32 : decode (xb yyW_markedKinds) 32 = .ok (.ireturn, 1) := by decide +kernel
def fW_markedKinds_b25 (t : Nat) (m : xM) (k4 : Int32 → Int32 → Int32 → Option (Int32)) (v1 : Int32) (v2 : Int32) (v3 : Int32) : Option (Int32) := k4 v1 v2 (v3 + 1)
def fW_markedKinds_l4 (t : Nat) (m : xM) : Nat → Int32 → Int32 → Int32 → Option (Int32)
  | 0, _, _, _ => none
  | n + 1, v1, v2, v3 => (if (6 : Int32) ≤ v3 then some v2 else (fW_playsAsMarked t m v3 v1).bind fun r13 => (if r13 = 0 then fW_markedKinds_b25 t m (fW_markedKinds_l4 t m n) v1 v2 v3 else fW_markedKinds_b25 t m (fW_markedKinds_l4 t m n) v1 (v2 ||| ((1 : Int32) <<< (v3 &&& 31))) v3))
def fW_markedKinds (t : Nat) (m : xM) (v1 : Int32) : Option (Int32) := fW_markedKinds_l4 t m xfu v1 (0 : Int32) (0 : Int32)
set_option maxRecDepth 100000 in
set_option maxHeartbeats 4000000 in
theorem kW_markedKinds_b25 (G : xG) (t : Nat) (ht : t < 4) (z : xM) (m : xM) (k4 : Int32 → Int32 → Int32 → Option (Int32)) (hk4 : ∀ (v1 : Int32) (v2 : Int32) (v3 : Int32), xR G yyW_markedKinds (emi (m, z)) 4 [(0, .ref (xa G (77 + t))), (1, .int v1), (2, .int v2), (3, .int v3)] [] (m, z) (k4 v1 v2 v3)) (v1 : Int32) (v2 : Int32) (v3 : Int32) : xR G yyW_markedKinds (emi (m, z)) 25 [(0, .ref (xa G (77 + t))), (1, .int v1), (2, .int v2), (3, .int v3)] [] (m, z) (fW_markedKinds_b25 t m k4 v1 v2 v3) := by
  unfold fW_markedKinds_b25
  refine xR_iinc 25 3 (v3 + 1) ([(3, .int (v3 + 1)), (0, .ref (xa G (77 + t))), (1, .int v1), (2, .int v2)]) dW_markedKinds_25 rfl rfl (by decide) rfl ?_
  refine xR_goto 28 4 dW_markedKinds_28 (by decide) ?_
  exact xR_sub [1, 2, 3, 0] rfl (hk4 v1 v2 (v3 + 1))
set_option maxRecDepth 100000 in
set_option maxHeartbeats 4000000 in
theorem kW_markedKinds_l4 (G : xG) (t : Nat) (ht : t < 4) (z : xM) (m : xM)   : ∀ (n : Nat) (v1 : Int32) (v2 : Int32) (v3 : Int32), xR G yyW_markedKinds (emi (m, z)) 4 [(0, .ref (xa G (77 + t))), (1, .int v1), (2, .int v2), (3, .int v3)] [] (m, z) (fW_markedKinds_l4 t m n v1 v2 v3) := by
  intro n
  induction n with
  | zero =>
    intro v1 v2 v3
    rw [fW_markedKinds_l4]
    exact xR_none
  | succ n ih =>
    intro v1 v2 v3
    rw [fW_markedKinds_l4]
    refine xR_iln 4 3 dW_markedKinds_4 rfl rfl ?_
    refine xR_bp 5 (6 : Int32) dW_markedKinds_5 (by decide) ?_
    refine xR_icge 7 31 dW_markedKinds_7 (by decide) ?_ ?_
    · refine xR_iln 31 2 dW_markedKinds_31 rfl rfl ?_
      exact xR_iret 32 rfl rfl dW_markedKinds_32
    · refine xR_aln 10 0 dW_markedKinds_10 rfl rfl ?_
      refine xR_iln 11 3 dW_markedKinds_11 rfl rfl ?_
      refine xR_iln 12 1 dW_markedKinds_12 rfl rfl ?_
      refine xR_callVi 13 cv_W_playsAsMarked ml_RX6_139 ⟨Nat.le_of_ble_eq_true rfl, Nat.le_of_ble_eq_true rfl⟩ xcf5 rfl (77 + t) (xk_W ht) (xC_twn ht) [.int v3, .int v1] rfl rfl (Nat.le_of_ble_eq_true rfl) dW_markedKinds_13 (kW_playsAsMarked G t ht z m v3 v1) (fun r13 => ?_)
      refine xR_ifeq 16 25 dW_markedKinds_16 (by decide) ?_ ?_
      · exact kW_markedKinds_b25 G t ht z m (fW_markedKinds_l4 t m n) ih v1 v2 v3
      · refine xR_iln 19 2 dW_markedKinds_19 rfl rfl ?_
        refine xR_ic 20 (1 : Int32) dW_markedKinds_20 (by decide) ?_
        refine xR_iln 21 3 dW_markedKinds_21 rfl rfl ?_
        refine xR_ishl 22 dW_markedKinds_22 ?_
        refine xR_ior 23 dW_markedKinds_23 ?_
        refine xR_isn 24 ([(2, .int (v2 ||| ((1 : Int32) <<< (v3 &&& 31)))), (0, .ref (xa G (77 + t))), (1, .int v1), (3, .int v3)]) dW_markedKinds_24 rfl (by decide) rfl ?_
        exact xR_sub [1, 2, 0, 3] rfl (kW_markedKinds_b25 G t ht z m (fW_markedKinds_l4 t m n) ih v1 (v2 ||| ((1 : Int32) <<< (v3 &&& 31))) v3)
set_option maxRecDepth 100000 in
set_option maxHeartbeats 4000000 in
theorem kW_markedKinds (G : xG) (t : Nat) (ht : t < 4) (z : xM) (m : xM) (v1 : Int32) : ∀ a, fW_markedKinds t m v1 = some a → xCt G yyW_markedKinds [.ref (xa G (77 + t)), .int v1] (m, z) (some (.int a)) (m, z) := by
  refine xR_ct (em := (emi (m, z))) rfl (Nat.le_of_ble_eq_true rfl) ?_
  show xR G yyW_markedKinds _ 0 [(0, .ref (xa G (77 + t))), (1, .int v1)] [] _ _
  unfold fW_markedKinds
  refine xR_ic 0 (0 : Int32) dW_markedKinds_0 (by decide) ?_
  refine xR_isn 1 ([(2, .int (0 : Int32)), (0, .ref (xa G (77 + t))), (1, .int v1)]) dW_markedKinds_1 rfl (by decide) rfl ?_
  refine xR_ic 2 (0 : Int32) dW_markedKinds_2 (by decide) ?_
  refine xR_isn 3 ([(3, .int (0 : Int32)), (2, .int (0 : Int32)), (0, .ref (xa G (77 + t))), (1, .int v1)]) dW_markedKinds_3 rfl (by decide) rfl ?_
  exact xR_sub [2, 3, 1, 0] rfl (kW_markedKinds_l4 G t ht z m xfu v1 (0 : Int32) (0 : Int32))
